import java.io.IOException;
import java.lang.management.ManagementFactory;
import java.lang.reflect.Constructor;
import java.lang.reflect.Field;
import java.lang.reflect.Member;
import java.lang.reflect.Method;
import java.lang.reflect.Modifier;
import java.nio.charset.StandardCharsets;
import java.nio.file.Files;
import java.nio.file.Path;
import java.util.ArrayList;
import java.util.Arrays;
import java.util.List;
import java.util.Set;
import java.util.TreeSet;
import java.util.regex.Matcher;
import java.util.regex.Pattern;

/** The face that the document asks for, what can be seen of LANGUAGE.md's rules, and the room that a run takes. */
public final class LanguageTest {
    private static final Due DUE = new Due("LanguageTest");
    private static final Path DOC = Path.of("..", "shared", "DOC.md");

    public static void main(String[] args) throws IOException {
        String program = Files.readString(Path.of(args.length > 0 ? args[0] : "src/main/java/PutOn.java"),
            StandardCharsets.ISO_8859_1);
        faceIsTheDocuments();
        restIsHidden();
        classesAreSmall();
        fieldsAreAllowed();
        wordsAreAllowed(program);
        methodsAreShort(program);
        runTakesLittleRoom();
        DUE.end();
    }

    private static void faceIsTheDocuments() throws IOException {
        Set<String> due = new TreeSet<>();
        Matcher line = Pattern.compile("(?m)^    public (\\w+) (\\w+)\\((.*)\\);$").matcher(Files.readString(DOC));
        while (line.find()) {
            due.add(line.group(1) + " " + line.group(2) + "(" + line.group(3).replaceAll(" \\w+(,|$)", "$1") + ")");
        }
        DUE.is("methods of the document's face", due.size(), 32);
        Set<String> are = new TreeSet<>();
        for (Method m : PutOn.class.getDeclaredMethods()) {
            if (Modifier.isPublic(m.getModifiers())) {
                List<String> types = new ArrayList<>();
                Arrays.stream(m.getParameterTypes()).forEach(t -> types.add(t.getSimpleName()));
                are.add(m.getReturnType().getSimpleName() + " " + m.getName() + "(" + String.join(", ", types) + ")");
            }
        }
        DUE.holds("the public methods are " + due + ", not " + are, due.equals(are));
        Set<String> constants = new TreeSet<>();
        for (Field f : PutOn.class.getFields()) {
            constants.add(f.getType() + " " + f.getName());
        }
        DUE.holds("the constants, not " + constants, constants.equals(
            new TreeSet<>(List.of("int NONE", "int BAD", "int STATE", "int FULL", "long NO"))));
        DUE.is("NONE", PutOn.NONE, -1);
        DUE.is("BAD", PutOn.BAD, -2);
        DUE.is("STATE", PutOn.STATE, -3);
        DUE.is("FULL", PutOn.FULL, -4);
        DUE.is("NO", PutOn.NO, -(1L << 62));
        DUE.holds("public and final", PutOn.class.getModifiers() == (Modifier.PUBLIC | Modifier.FINAL));
        Constructor<?>[] constructors = PutOn.class.getDeclaredConstructors();
        DUE.holds("one constructor, public, of nothing", constructors.length == 1
            && Modifier.isPublic(constructors[0].getModifiers()) && constructors[0].getParameterCount() == 0);
    }

    private static List<Class<?>> classes() {
        List<Class<?>> classes = new ArrayList<>(List.of(PutOn.class));
        classes.addAll(List.of(PutOn.class.getDeclaredClasses()));
        return classes;
    }

    private static void restIsHidden() {
        List<Member> members = new ArrayList<>(List.of(PutOn.class.getDeclaredFields()));
        members.addAll(List.of(PutOn.class.getDeclaredMethods()));
        for (Member m : members) {
            DUE.holds(m + " is public or private", (m.getModifiers() & (Modifier.PUBLIC | Modifier.PRIVATE)) != 0);
        }
        Set<String> face = new TreeSet<>();
        Arrays.stream(PutOn.class.getMethods()).filter(m -> m.getDeclaringClass() == PutOn.class)
            .forEach(m -> face.add(m.getName()));
        for (Class<?> c : classes()) {
            for (Method m : c.getDeclaredMethods()) {
                DUE.holds(m + " bears no name of the face",
                    c == PutOn.class && Modifier.isPublic(m.getModifiers()) || !face.contains(m.getName()));
            }
        }
    }

    private static void classesAreSmall() {
        DUE.holds("twelve classes at most", classes().size() <= 12);
        for (Class<?> c : classes()) {
            DUE.holds(c + " holds no classes", c == PutOn.class || c.getDeclaredClasses().length == 0);
            DUE.holds(c + " is static", c == PutOn.class || Modifier.isStatic(c.getModifiers()));
            DUE.holds(c + " is not public", c == PutOn.class
                || (c.getModifiers() & (Modifier.PUBLIC | Modifier.PROTECTED)) == 0);
            long fields = Arrays.stream(c.getDeclaredFields()).filter(f -> !Modifier.isStatic(f.getModifiers())).count();
            DUE.holds(c + " has twenty fields at most", fields <= 20);
            for (Method m : c.getDeclaredMethods()) {
                DUE.holds(m + " takes seven at most", m.getParameterCount() <= 7);
            }
        }
    }

    private static void fieldsAreAllowed() {
        Set<Class<?>> constant = Set.of(int.class, long.class, boolean.class, char.class, String.class,
            int[].class, long[].class, char[].class, byte[].class);
        for (Class<?> c : classes()) {
            for (Field f : c.getDeclaredFields()) {
                if (Modifier.isStatic(f.getModifiers())) {
                    DUE.holds(f + " is final", Modifier.isFinal(f.getModifiers()));
                    DUE.holds(f + " is of an allowed type", constant.contains(f.getType()));
                }
            }
        }
    }

    private static void wordsAreAllowed(String program) {
        DUE.holds("signs 1 to 127", program.chars().allMatch(c -> c >= 1 && c <= 127));
        DUE.holds("no texts joined by +", !Pattern.compile("\"\\s*\\+|\\+\\s*\"").matcher(program).find());
        String code = program.replaceAll("(?s)/\\*.*?\\*/", " ").replaceAll("//[^\n]*", " ")
            .replaceAll("\"[^\"\n]*\"", "TEXT").replaceAll("'(\\\\.|[^'])'", "SIGN");
        String no = "package|import|throw|throws|try|catch|finally|synchronized|assert|double|float|var|record|enum"
            + "|interface|native|transient|volatile|strictfp|protected|equals|hashCode|toString|getClass|Object";
        Matcher word = Pattern.compile("\\b(" + no + ")\\b|->|::|@").matcher(code);
        DUE.holds("no " + (word.find() ? word.group() : ""), !word.reset().find());
        Matcher library = Pattern.compile("\\b(System|Math|Integer|Long|String|Arrays|Character|Thread)\\.(\\w+)")
            .matcher(code);
        Set<String> allowed = Set.of("System.arraycopy", "Math.max", "Math.min", "Math.abs", "Math.floorMod",
            "Integer.bitCount");
        while (library.find()) {
            DUE.holds(library.group() + " is allowed", allowed.contains(library.group()));
        }
        DUE.holds("no loop without a bound",
            !Pattern.compile("while\\s*\\(\\s*true|for\\s*\\([^;]*;\\s*;").matcher(code).find());
    }

    private static void methodsAreShort(String program) {
        String[] lines = program.split("\n");
        int methods = 0;
        for (int i = 0; i < lines.length; i++) {
            Matcher opens = Pattern.compile("^( {4}| {8})(?!static final class|private static final class)\\w.*\\) \\{$")
                .matcher(lines[i]);
            if (!opens.find() || lines[i].matches("\\s*(if|for|while|switch).*")) {
                continue;
            }
            int end = i;
            while (end < lines.length && !lines[end].equals(opens.group(1) + "}")) {
                end++;
            }
            methods++;
            DUE.holds("sixty lines at most: " + lines[i].trim(), end - i < 60);
        }
        DUE.holds("methods were found: " + methods, methods > 80);
    }

    // a text that is dear to reckon, nearly as long as THE TAPE
    private static String dearText() {
        StringBuilder text = new StringBuilder("came 50;adds 60");
        while (text.length() < 140) {
            text.append("+who");
        }
        return text.append(";minds done;").toString();
    }

    private static void runTakesLittleRoom() {
        com.sun.management.ThreadMXBean threads =
            (com.sun.management.ThreadMXBean) ManagementFactory.getThreadMXBean();
        long thread = Thread.currentThread().getId();
        long taken = Long.MAX_VALUE;
        // what the machine itself takes at a first run is no matter
        for (int k = 0; k < 5; k++) {
            long before = threads.getThreadAllocatedBytes(thread);
            dearRun();
            taken = Math.min(taken, threads.getThreadAllocatedBytes(thread) - before);
        }
        // 7.3 million elements are the room of all calls of a run; here are far fewer
        DUE.holds("a run of 512 calls took " + taken + " bytes", taken < 200000);
    }

    private static void dearRun() {
        PutOn p = new PutOn();
        String text = dearText();
        Due.text(p, text);
        p.force(1);
        for (int c = 0; c < 6; c++) {
            p.clock(10 * c, 20 * c);
        }
        for (int d = 0; d < 5; d++) {
            p.doer(d, 9, 63);
        }
        p.sheet(0, 2, 6);
        for (int calls = text.length() + 14; calls < 512; calls += 13) {
            p.set(3, 0, 100);
            p.look();
            p.set(3, 0, -1);
            p.fewest();
            p.ask();
            p.say(0);
            p.bad(0);
            p.time(0);
            p.sure(0);
            p.tellsBack(0, 2);
            p.chance(calls, 20, 0);
            p.film(1, 7);
            p.image();
            p.back();
        }
    }
}
