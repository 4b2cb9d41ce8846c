import java.util.Arrays;
import java.util.Random;
import java.util.TreeMap;

/**
 * Runs of calls that are drawn, each answered by PutOn and by Model alike. An argument is how many runs
 * (150, if there is none): the same runs each time.
 */
public final class ModelTest {
    // how often each is drawn
    private static final int[] OFTEN = {5, 5, 12, 8, 6, 2, 6, 10, 10, 8, 8, 6, 6, 8, 8, 8, 6, 8, 8, 3, 8, 4, 6, 6, 2,
        2, 4, 6, 10, 12, 10, 5};
    private static final int[] EDGES = {Integer.MIN_VALUE, Integer.MAX_VALUE, -121, -2, -1, 6, 7, 10, 32, 40, 41, 64,
        256, 1440, 70000};

    private final Random random;
    private final PutOn own = new PutOn();
    private final Model model = new Model();
    private final StringBuilder run = new StringBuilder();
    private final TreeMap<String, Integer> answered;
    private int calls = 0;
    private boolean wrong = false;

    private ModelTest(long seed, TreeMap<String, Integer> answered) {
        random = new Random(seed);
        this.answered = answered;
    }

    public static void main(String[] args) {
        int runs = args.length > 0 && args[0].matches("[0-9]+") ? Integer.parseInt(args[0]) : 150;
        TreeMap<String, Integer> answered = new TreeMap<>();
        int wrong = 0;
        for (int r = 0; r < runs && wrong < 5; r++) {
            ModelTest one = new ModelTest(r, answered);
            one.go();
            if (one.wrong) {
                wrong++;
                System.out.println("ModelTest: run " + r + one.run);
            }
        }
        // a test that only ever sees refusals would test little
        for (String call : Calls.ALL) {
            if (answered.getOrDefault(call, 0) < runs / 2) {
                wrong++;
                System.out.println("ModelTest: " + call + " was answered " + answered.getOrDefault(call, 0) + " times only");
            }
        }
        System.out.println("ModelTest: " + runs + " runs, " + wrong + " wrong");
        if (wrong != 0) {
            System.exit(1);
        }
    }

    private void go() {
        for (int c = random.nextInt(5); c > 0; c--) {
            call("clock", 10 * random.nextInt(6) + random.nextInt(4) / 3, 30 * (random.nextInt(9) - 4));
        }
        for (int d = random.nextInt(5); d > 0; d--) {
            call("doer", random.nextInt(6), random.nextInt(10), random.nextInt(64));
        }
        while (calls < 512 && !wrong) {
            int k = random.nextInt(Arrays.stream(OFTEN).sum());
            int which = 0;
            while (k >= OFTEN[which]) {
                k -= OFTEN[which];
                which++;
            }
            drawn(Calls.ALL[which]);
        }
    }

    // mostly a number below n, at times one that is none such
    private int small(int n) {
        int k = random.nextInt(24);
        return k == 0 ? EDGES[random.nextInt(EDGES.length)] : k == 1 ? n : k == 2 ? -1 : random.nextInt(Math.max(1, n));
    }

    private int clock() {
        return small(model.count(0));
    }

    private int doer() {
        return small(model.count(1));
    }

    private int world() {
        return small(1 << model.count(1));
    }

    private int off() {
        return random.nextInt(12) == 0 ? small(300) : random.nextBoolean() ? 60 * (random.nextInt(5) - 2)
            : random.nextInt(241) - 120;
    }

    private void drawn(String name) {
        switch (name) {
            case "clock":
                call(name, random.nextInt(6) == 0 ? small(60) : 10 * random.nextInt(6) + random.nextInt(2), off());
                break;
            case "doer":
                call(name, small(6), small(10), small(64));
                break;
            case "set":
                drawnSet();
                break;
            case "told":
                drawnTold();
                break;
            case "feed":
                call(name, random.nextInt(4) == 0 ? small(256) : "came adds;()1<=".charAt(random.nextInt(15)));
                break;
            case "text":
                drawnText();
                break;
            case "force":
                call(name, small(model.count(3)));
                break;
            case "at":
                call(name, clock(), world(), small(3));
                break;
            case "right":
                call(name, world(), small(3));
                break;
            case "world":
                call(name, random.nextInt(3) == 0 ? -1 : world());
                break;
            case "odds":
                call(name, clock(), small(2));
                break;
            case "time": case "sure": case "say": case "bad":
                call(name, small(2));
                break;
            case "late":
                call(name, clock());
                break;
            case "live":
                call(name, world());
                break;
            case "tellsBack":
                drawnTellsBack();
                break;
            case "film":
                call(name, small(4), world());
                break;
            case "drawn":
                call(name, random.nextInt());
                break;
            case "chance":
                call(name, random.nextBoolean() ? random.nextInt() : small(9), small(21), small(2));
                break;
            case "count":
                call(name, small(6));
                break;
            case "sheet":
                call(name, small(4), random.nextInt(10) == 0 ? -1 : small(3), small(random.nextBoolean() ? 7 : 41));
                break;
            case "cell":
                call(name, small(4), small(8), random.nextInt(3) == 0 ? random.nextInt(3)
                    : random.nextBoolean() ? random.nextInt() : off());
                break;
            case "copy":
                drawnCopy();
                break;
            case "clocks":
                drawnClocks();
                break;
            case "taken":
                call(name, doer(), small(6));
                break;
            default:
                call(name);
                break;
        }
    }

    private void drawnSet() {
        int what = random.nextInt(3) == 0 ? 3 : small(6);
        int v;
        switch (what) {
            case 0:
                v = off();
                break;
            case 1:
                v = small(6);
                break;
            case 2:
                v = small(2);
                break;
            case 3:
                int k = random.nextInt(8);
                v = k < 2 ? -1 : k == 2 ? small(1440) : k == 3 ? random.nextInt(1440) : 30 * random.nextInt(6);
                break;
            case 4:
                v = small(10);
                break;
            default:
                v = small(64);
                break;
        }
        call("set", what, what < 4 ? clock() : doer(), v);
    }

    private void drawnTold() {
        int what = small(8);
        call("told", what < 4 ? clock() : doer(), what);
    }

    // a SHEET as long as there are clocks, filled at times with what may be told
    private void drawnTellsBack() {
        int sheet = small(4);
        if (sheet >= 0 && sheet < 4 && random.nextInt(3) > 0) {
            call("sheet", sheet, random.nextInt(3), model.count(0));
            int known = random.nextInt(4);
            for (int c = 0; c < model.count(0); c++) {
                call("cell", sheet, c, random.nextInt(4) < known ? random.nextInt(2) : random.nextInt(8) - 3);
            }
        }
        for (int what = 0; what < 3; what++) {
            call("tellsBack", sheet, random.nextInt(20) == 0 ? small(3) : what);
        }
    }

    private void drawnCopy() {
        int from = small(4);
        int to = random.nextInt(3) == 0 ? from : small(4);
        if (random.nextInt(3) == 0) {
            int sort = random.nextInt(3);
            call("sheet", from, sort, 8 + random.nextInt(9));
            call("sheet", to, sort, 8 + random.nextInt(9));
        }
        call("copy", from, small(7), to, small(7), small(6));
    }

    private void drawnClocks() {
        int sheet = small(4);
        int sort = random.nextInt(3);
        if (sheet >= 0 && sheet < 4 && random.nextBoolean()) {
            call("sheet", sheet, sort, random.nextInt(12));
            for (int i = random.nextInt(3); i < 10; i += 2) {
                call("cell", sheet, i, 10 * random.nextInt(6) + random.nextInt(8) / 6);
            }
        }
        call("clocks", sheet, random.nextInt(4) == 0 ? small(3) : sort, small(4), small(7));
    }

    private void drawnText() {
        StringBuilder text = new StringBuilder("came");
        int deep = random.nextInt(6);
        text.append(e(deep, 90)).append(";adds").append(e(deep, 0)).append(";minds").append(e(deep, 0)).append(';');
        for (int k = random.nextInt(3); k == 0 && text.length() > 0; k = random.nextInt(3)) {
            spoil(text);
        }
        for (int i = 0; i < text.length() && i < 170; i++) {
            call("feed", text.charAt(i));
        }
        int was = model.count(3);
        call("text");
        if (model.count(3) > was && random.nextInt(3) > 0) {
            call("force", model.count(3) - 1);
        }
    }

    private void spoil(StringBuilder text) {
        int i = random.nextInt(text.length());
        String signs = "();+-*<= \n09azmnot$\t";
        char sign = signs.charAt(random.nextInt(signs.length()));
        switch (random.nextInt(3)) {
            case 0:
                text.setCharAt(i, sign);
                break;
            case 1:
                text.insert(i, sign);
                break;
            default:
                text.deleteCharAt(i);
                break;
        }
    }

    private String blank() {
        return random.nextInt(6) == 0 ? "\n" : " ";
    }

    // an E of about so much depth; most: what a number in it is at most
    private String e(int deep, int most) {
        if (deep <= 0) {
            String[] names = {"clock", "who", "room", "off", "done", "rooms"};
            int number = most > 0 ? random.nextInt(most) : random.nextInt(8) == 0 ? random.nextInt(10000)
                : random.nextInt(8) == 0 ? 60 : random.nextInt(70);
            return blank() + (random.nextInt(3) == 0 ? names[random.nextInt(6)] : "" + number);
        }
        String a = e(deep - 1 - random.nextInt(2), most);
        switch (random.nextInt(14)) {
            case 0:
                return a + blank() + "or" + e(deep - 2, most);
            case 1:
                return a + blank() + "and" + e(deep - 2, most);
            case 2:
                return blank() + "not" + a;
            case 3:
                return a + "<" + e(deep - 2, most);
            case 4:
                return a + "=" + e(deep - 2, most);
            case 5: case 6:
                return a + "+" + e(deep - 2, most);
            case 7:
                return a + "-" + e(deep - 2, most);
            case 8: case 9:
                return a + "*" + e(deep - 2, most);
            case 10:
                return "-" + a;
            default:
                return "(" + a + ")";
        }
    }

    private void call(String name, int... a) {
        if (calls >= 512 || wrong) {
            return;
        }
        calls++;
        long got = Calls.of(own, name, a);
        long due;
        try {
            due = Calls.of(model, name, a);
            answered.merge(name, 1, Integer::sum);
        } catch (Model.Refused refused) {
            due = refused.answer;
        }
        run.append("\n  ").append(Calls.told(name, a)).append(" = ").append(got);
        if (got != due) {
            wrong = true;
            run.append(", due is ").append(due);
        }
    }
}
