import java.lang.reflect.Method;
import java.nio.file.Files;
import java.nio.file.Path;
import java.util.ArrayList;
import java.util.List;
import java.util.regex.Matcher;
import java.util.regex.Pattern;

/** README.md: its example answers as it says, and it names every call of the document's face. */
public final class ReadmeTest {
    private static final Pattern MADE = Pattern.compile("HoleBank bank = new HoleBank\\(\\);");
    private static final Pattern TYPED = Pattern.compile("for \\(char c : \"(.*)\"\\.toCharArray\\(\\)\\) bank\\.type\\((\\d), c\\);.*");
    private static final Pattern ASKED = Pattern.compile("bank\\.(\\w+)\\((.*?)\\); +// .*: (-?\\d+)");
    private static final Pattern FACE = Pattern.compile("(?m)^    public (?:int|long) (\\w+)\\((.*)\\);$");

    private static final Due due = new Due();

    public static void main(String[] args) throws Exception {
        String readme = Files.readString(Path.of("README.md"));
        example(between(readme, "```java\n", "```"));
        table(readme, Files.readString(Path.of("../shared/DOC.md")));
        due.end();
    }

    private static String between(String text, String begin, String end) {
        int from = text.indexOf(begin) + begin.length();
        due.holds("README.md has an example", from >= begin.length());
        return text.substring(from, text.indexOf(end, from));
    }

    private static void example(String code) throws Exception {
        HoleBank bank = new HoleBank();
        for (String line : code.split("\n")) {
            Matcher typed = TYPED.matcher(line);
            Matcher asked = ASKED.matcher(line);
            if (typed.matches()) {
                Due.type(bank, Integer.parseInt(typed.group(2)), typed.group(1));
            } else if (asked.matches()) {
                due.is(line, ask(bank, asked.group(1), asked.group(2)), Long.parseLong(asked.group(3)));
            } else {
                due.holds("a line that is not understood: " + line, MADE.matcher(line).matches());
            }
        }
    }

    private static long ask(HoleBank bank, String name, String numbers) throws Exception {
        List<Object> given = new ArrayList<>();
        for (String number : numbers.split(", ")) {
            given.add(number.equals("HoleBank.NONE") ? HoleBank.NONE : Integer.parseInt(number));
        }
        for (Method call : HoleBank.class.getDeclaredMethods()) {
            if (call.getName().equals(name)) return ((Number) call.invoke(bank, given.toArray())).longValue();
        }
        due.holds("there is no call " + name, false);
        return 0;
    }

    private static void table(String readme, String document) {
        int calls = 0;
        Matcher face = FACE.matcher(document);
        while (face.find()) {
            String call = face.group(1) + "(" + face.group(2).replaceAll("int ", "") + ")";
            due.holds("README.md tells of " + call, readme.contains("`" + call + "`"));
            calls++;
        }
        due.is("the calls of the face", calls, 35);
    }
}
