import java.io.IOException;
import java.lang.reflect.Constructor;
import java.lang.reflect.Field;
import java.lang.reflect.InvocationTargetException;
import java.lang.reflect.Method;
import java.lang.reflect.Modifier;
import java.nio.file.Files;
import java.nio.file.Path;
import java.util.ArrayList;
import java.util.Arrays;
import java.util.List;
import java.util.Random;
import java.util.TreeSet;
import java.util.regex.Matcher;
import java.util.regex.Pattern;

/** The face of the class, the rules of the language that can be seen from outside, and calls with any numbers. */
public final class FaceTest {
    private static final String[] FACE = {
        "int type(int,int)", "int wipe(int)", "int undo(int)", "int fault(int)", "int hole(int,int)",
        "int work(int,int)", "int loan(int,int,int,int)", "int fill(int,int)", "int patch(int,int)", "int back(int)",
        "int read(int)", "int ease(int)", "int is(int,int,int)", "int behind(int,int)", "int came(int,int)",
        "int breaches(int)", "int first()", "int serves(int,int)", "int best(int,int)", "int mend(int,int,int)",
        "int call(int,int)", "int seen(int,int,int)", "int forget()", "int never(int)", "int look(int)",
        "long moths(int,int,int,int)", "int run(int,int,int)", "int sheet(int,int,int)", "int lose(int)",
        "int lay(int,int,int,int)", "int get(int,int,int)", "int copy(int,int,int,int,int)", "int write(int,int)",
        "int count(int)", "long digest()"
    };
    private static final Due due = new Due();

    public static void main(String[] args) throws Exception {
        face();
        nested();
        source();
        anyNumbers();
        room();
        due.end();
    }

    private static String signature(Method m) {
        StringBuilder s = new StringBuilder(m.getReturnType().getName()).append(' ').append(m.getName()).append('(');
        for (Class<?> c : m.getParameterTypes()) s.append(s.charAt(s.length() - 1) == '(' ? "" : ",").append(c.getName());
        return s.append(')').toString();
    }

    private static void face() throws IllegalAccessException {
        due.holds("the class is public and final", Modifier.toString(HoleBank.class.getModifiers()).equals("public final"));
        TreeSet<String> seen = new TreeSet<>();
        TreeSet<String> names = new TreeSet<>();
        for (Method m : HoleBank.class.getDeclaredMethods()) {
            if (Modifier.isPublic(m.getModifiers())) {
                seen.add(signature(m));
                names.add(m.getName());
            }
        }
        due.holds("the methods: " + seen, seen.equals(new TreeSet<>(Arrays.asList(FACE))));
        for (Method m : HoleBank.class.getDeclaredMethods()) {
            boolean isPublic = Modifier.isPublic(m.getModifiers());
            due.holds(m + " is public or private", isPublic || Modifier.isPrivate(m.getModifiers()));
            due.holds(m + " has a name of its own", isPublic || !names.contains(m.getName()));
        }
        Constructor<?>[] made = HoleBank.class.getDeclaredConstructors();
        due.holds("one constructor", made.length == 1 && Modifier.isPublic(made[0].getModifiers())
            && made[0].getParameterCount() == 0);
        TreeSet<String> constants = new TreeSet<>();
        for (Field f : HoleBank.class.getDeclaredFields()) {
            if (!Modifier.isPrivate(f.getModifiers())) {
                constants.add(Modifier.toString(f.getModifiers()) + " " + f.getType() + " " + f.getName() + " " + f.get(null));
            }
        }
        due.holds("the constants: " + constants, constants.equals(new TreeSet<>(Arrays.asList(
            "public static final int NONE -1", "public static final int BAD -2",
            "public static final int NOT -3", "public static final int FULL -4"))));
    }

    private static void nested() {
        Class<?>[] classes = HoleBank.class.getDeclaredClasses();
        due.holds("at most some twelve classes", classes.length <= 11);
        TreeSet<String> names = new TreeSet<>();
        for (String m : FACE) names.add(m.substring(m.indexOf(' ') + 1, m.indexOf('(')));
        for (Class<?> c : classes) {
            due.holds(c + " is static", Modifier.isStatic(c.getModifiers()));
            due.holds(c + " is not public", !Modifier.isPublic(c.getModifiers()));
            for (Method m : c.getDeclaredMethods()) {
                due.holds(m + " has at most seven parameters", m.getParameterCount() <= 7);
                due.holds(m + " has a name of its own", !names.contains(m.getName()));
            }
            int fields = 0;
            for (Field f : c.getDeclaredFields()) {
                if (Modifier.isStatic(f.getModifiers())) due.holds(f + " is final", Modifier.isFinal(f.getModifiers()));
                else fields++;
            }
            due.holds(c + " has some twenty fields at most", fields <= 20);
        }
    }

    private static void source() throws IOException {
        String text = Files.readString(Path.of("src/main/java/HoleBank.java"));
        String code = text.replaceAll("(?s)/\\*.*?\\*/", "").replaceAll("//[^\n]*", "");
        String[] ruledOut = {
            "throw", "throws", "try", "catch", "synchronized", "assert", "->", "::", "hashCode", "toString", "package",
            "Random", "Thread", "System.nanoTime", "System.currentTimeMillis", "System.out", "Exact", "protected",
            "double", "float", "MIN_VALUE", "MAX_VALUE", "NullPointerException", "native", "strictfp", "goto"
        };
        for (String word : ruledOut) {
            String quoted = Character.isLetter(word.charAt(0)) ? "\\b" + Pattern.quote(word) + "\\b" : Pattern.quote(word);
            due.holds("without " + word, !Pattern.compile(quoted).matcher(code).find());
        }
        Matcher imports = Pattern.compile("(?m)^import (.*);").matcher(code);
        while (imports.find()) due.is("import " + imports.group(1), imports.group(1).equals("java.util.Arrays") ? 1 : 0, 1);
        for (int i = 0; i < text.length(); i++) due.holds("plain signs alone", text.charAt(i) < 128);
        methodsAreShort(code.split("\n"));
    }

    /** A method begins with a line that ends in "{" behind a ")", four or eight columns in, and ends with its "}". */
    private static void methodsAreShort(String[] lines) {
        Pattern head = Pattern.compile("^( {4}| {8})(public|private)[^=;]*\\(.*\\{$");
        for (int i = 0; i < lines.length; i++) {
            Matcher m = head.matcher(lines[i]);
            if (!m.find()) continue;
            int end = i;
            while (end < lines.length && !lines[end].equals(m.group(1) + "}")) end++;
            due.holds("short: " + lines[i].trim() + " has " + (end - i + 1) + " lines", end - i + 1 <= 60);
        }
    }

    /** No call may throw, for any numbers in any state. */
    private static void anyNumbers() throws IllegalAccessException {
        List<Method> calls = new ArrayList<>();
        for (Method m : HoleBank.class.getDeclaredMethods()) {
            if (Modifier.isPublic(m.getModifiers())) calls.add(m);
        }
        calls.sort((a, b) -> signature(a).compareTo(signature(b)));
        int[] numbers = {
            Integer.MIN_VALUE, Integer.MIN_VALUE + 1, -1002, -256, -3, -2, -1, 0, 1, 2, 3, 4, 5, 7, 8, 9, 12, 16, 39, 40,
            60, 61, 97, 108, 114, 115, 255, 256, 65536, Integer.MAX_VALUE - 1, Integer.MAX_VALUE
        };
        Random random = new Random(1);
        for (int object = 0; object < 400; object++) {
            HoleBank bank = object % 2 == 0 ? new HoleBank()
                : Due.bank("r352;s441;l291;r920;s213;r119;l991;s111", "r339;a457;l295;s408;a111;a901;r555;l129");
            for (int k = 0; k < 400; k++) {
                Method m = calls.get(random.nextInt(calls.size()));
                Object[] given = new Object[m.getParameterCount()];
                for (int a = 0; a < given.length; a++) {
                    given[a] = random.nextInt(3) == 0 ? random.nextInt(10) : numbers[random.nextInt(numbers.length)];
                }
                try {
                    m.invoke(bank, given);
                } catch (InvocationTargetException e) {
                    due.holds(m.getName() + Arrays.toString(given) + " throws " + e.getCause(), false);
                }
            }
        }
    }

    /** All is made with the object: its dearest calls, many times over, make next to nothing. */
    private static void room() {
        HoleBank bank = Due.bank("r352;s441;l291;r920;s213;r119;l991;s111", "r339;a457;l295;s408;a111;a901;r555;l129");
        for (int l = 0; l < 12; l++) bank.loan(l, l % 8, l % 6, 9);
        for (int k = 0; k < 8; k++) {
            bank.fill(k, k);
            bank.patch(k + 1, k);
        }
        var threads = (com.sun.management.ThreadMXBean) java.lang.management.ManagementFactory.getThreadMXBean();
        long me = Thread.currentThread().getId();
        bank.digest();
        threads.getThreadAllocatedBytes(me);
        long ahead = threads.getThreadAllocatedBytes(me);
        for (int k = 0; k < 400; k++) {
            bank.digest();
            bank.sheet(k % 4, k % 3, 60);
        }
        long made = threads.getThreadAllocatedBytes(me) - ahead;
        due.holds("400 digests and sheets made " + made + " bytes", made < 20000);
    }
}
