import java.io.IOException;
import java.nio.file.Files;
import java.nio.file.Path;

/** Counts answers that are not the ones that are due, and tells of each. */
final class Due {
    private static final Path DOCUMENT = Path.of("../shared/DOC.md");

    private final String document = textOf(DOCUMENT);
    private String sentence = "";
    private int wrong = 0;
    private int asked = 0;

    /** The words of the document against which the answers are held from here on; they must stand in it so. */
    void says(String words) {
        sentence = "";
        holds("the document does not say: " + words, document.isEmpty() || document.contains(words));
        sentence = "\"" + words + "\": ";
    }

    void is(String what, long got, long want) {
        asked++;
        if (got != want) {
            wrong++;
            if (wrong <= 40) {
                System.out.println(sentence + what + " answered " + got + ", due is " + want);
            }
        }
    }

    void holds(String what, boolean truth) {
        is(what, truth ? 1 : 0, 1);
    }

    int wrongs() {
        return wrong;
    }

    void end() {
        System.out.println(asked + " answers, " + wrong + " not as due");
        if (wrong != 0) {
            System.exit(1);
        }
    }

    /** Without the document at hand nothing is held against its words, but all answers still are. */
    private static String textOf(Path path) {
        try {
            return Files.readString(path);
        } catch (IOException e) {
            return "";
        }
    }

    /** A bank with texts typed into it. */
    static HoleBank bank(String holes, String works) {
        HoleBank bank = new HoleBank();
        type(bank, 0, holes);
        type(bank, 1, works);
        return bank;
    }

    static void type(HoleBank bank, int text, String bytes) {
        for (int i = 0; i < bytes.length(); i++) {
            bank.type(text, bytes.charAt(i));
        }
    }
}
