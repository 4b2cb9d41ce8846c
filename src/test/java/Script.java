import java.util.regex.Matcher;
import java.util.regex.Pattern;

/**
 * Runs of calls told line by line, each run on a new object:
 * "clock(0, 0) = 0", "160 times feed(32) = 160" (the last one's answer), "text came 1;adds 1;minds 1; = 1"
 * (fed byte by byte, then read). NO, BIG and SMALL stand for their numbers.
 */
final class Script {
    private static final Pattern LINE = Pattern.compile("(?s)(?:(\\d+) times )?(\\w+)\\((.*)\\) = (\\S+)");
    private static final Pattern TEXT = Pattern.compile("(?s)text (.*) = (\\S+)");
    private static final int MOST = 512;

    private final Due due;
    private final String sentence;
    private final PutOn p = new PutOn();
    private int calls = 0;

    private Script(Due due, String sentence) {
        this.due = due;
        this.sentence = sentence;
    }

    /** Holds a sentence of the document to the answers of a run. */
    static void says(Due due, String sentence, String... lines) {
        Script script = new Script(due, sentence);
        for (String line : lines) {
            script.run(line);
        }
        due.holds(sentence + ": no more calls than an object is good for", script.calls <= MOST);
    }

    private void run(String line) {
        Matcher text = TEXT.matcher(line);
        Matcher call = LINE.matcher(line);
        if (text.matches()) {
            calls += text.group(1).length() + 1;
            due.is(sentence + ": " + line, Due.text(p, text.group(1)), number(text.group(2)));
        } else if (call.matches()) {
            int times = call.group(1) == null ? 1 : Integer.parseInt(call.group(1));
            int[] a = numbers(call.group(3));
            long answer = 0;
            for (int i = 0; i < times; i++) {
                answer = Calls.of(p, call.group(2), a);
            }
            calls += times;
            due.is(sentence + ": " + line, answer, number(call.group(4)));
        } else {
            throw new IllegalArgumentException("no call: " + line);
        }
    }

    private static int[] numbers(String told) {
        String[] words = told.isBlank() ? new String[0] : told.split(", ");
        int[] numbers = new int[words.length];
        for (int i = 0; i < words.length; i++) {
            numbers[i] = (int) number(words[i]);
        }
        return numbers;
    }

    private static long number(String word) {
        switch (word) {
            case "NO": return PutOn.NO;
            case "BIG": return Integer.MAX_VALUE;
            case "SMALL": return Integer.MIN_VALUE;
            default: return Long.parseLong(word);
        }
    }
}
