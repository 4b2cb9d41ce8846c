import java.util.ArrayList;
import java.util.List;

/**
 * Each call with every choice of its arguments from the numbers at its edges, on a new object, on one that
 * holds some and on one that is full; and what all later calls then answer: alike by PutOn and by Model.
 * So too every TEXT of few TOKENS, at each depth, and every byte.
 */
public final class EdgesTest {
    private static final int BIG = Integer.MAX_VALUE, SMALL = Integer.MIN_VALUE;
    // an object is good for 512 calls: those of the fullest scene, these, and those that look at it afterwards
    private static final int AT_ONCE = 50, MOST = 512;

    private static final int[] CLOCKS = {SMALL, -1, 0, 1, 2, 3, 5, 6, BIG};
    private static final int[] DOERS = {SMALL, -1, 0, 1, 2, 4, 5, BIG};
    private static final int[] WORLDS = {SMALL, -2, -1, 0, 1, 3, 4, 31, 32, BIG};
    private static final int[] OFFS = {SMALL, -121, -120, 0, 120, 121, BIG};
    private static final int[] KINDS = {SMALL, -1, 0, 1, 2, 3, 4, 5, 6, BIG};
    private static final int[] TWO = {SMALL, -1, 0, 1, 2, BIG};
    private static final int[] THREE = {SMALL, -1, 0, 1, 2, 3, BIG};
    private static final int[] SHEETS = {SMALL, -1, 0, 1, 2, 3, 4, BIG};
    private static final int[] SORTS = {SMALL, -2, -1, 0, 1, 2, 3, BIG};
    private static final int[] SEEDS = {SMALL, -1, 0, 1, BIG - 18, BIG};

    private static final class Pair {
        final PutOn own = new PutOn();
        final Model model = new Model();
        private final StringBuilder run = new StringBuilder();
        private int calls = 0;

        // what both answer; counts and tells it, if they don't answer alike
        void call(String name, int... a) {
            calls++;
            long got = Calls.of(own, name, a);
            long due = Calls.due(model, name, a);
            run.append("\n  ").append(Calls.told(name, a)).append(" = ").append(got);
            asked++;
            if (got != due || calls > MOST) {
                wrong++;
                System.out.println("EdgesTest, call " + calls + ":" + (wrong < 4 ? run : Calls.told(name, a))
                    + ", due is " + due);
            }
        }

        void feed(String text) {
            for (int i = 0; i < text.length(); i++) {
                call("feed", text.charAt(i));
            }
        }
    }

    private static int asked = 0;
    private static int wrong = 0;

    public static void main(String[] args) {
        for (int scene = 0; scene < 4; scene++) {
            edges(scene, "clock", new int[] {SMALL, -11, -10, -1, 0, 1, 2, 9, 10, 11, 12, 50, 51, 52, 59, 60, 61, BIG},
                OFFS);
            edges(scene, "doer", KINDS, new int[] {SMALL, -1, 0, 4, 9, 10, BIG}, new int[] {SMALL, -1, 0, 63, 64, BIG});
            edges(scene, "set", new int[] {SMALL, -1, 0, 1, 2, 3, 4, 5, 6, BIG}, CLOCKS,
                new int[] {SMALL, -121, -120, -2, -1, 0, 1, 2, 5, 6, 9, 10, 63, 64, 120, 121, 1439, 1440, BIG});
            edges(scene, "told", CLOCKS, new int[] {SMALL, -1, 0, 1, 2, 3, 4, 5, 6, 7, 8, BIG});
            edges(scene, "feed", new int[] {SMALL, -1, 0, 32, 255, 256, BIG});
            edges(scene, "text");
            edges(scene, "force", new int[] {SMALL, -1, 0, 1, 2, 5, 6, BIG});
            edges(scene, "at", CLOCKS, WORLDS, THREE);
            edges(scene, "right", WORLDS, THREE);
            edges(scene, "world", WORLDS);
            edges(scene, "odds", CLOCKS, TWO);
            edges(scene, "time", TWO);
            edges(scene, "sure", TWO);
            edges(scene, "say", TWO);
            edges(scene, "bad", TWO);
            edges(scene, "late", CLOCKS);
            edges(scene, "live", WORLDS);
            edges(scene, "tellsBack", SHEETS, THREE);
            edges(scene, "film", SHEETS, WORLDS);
            edges(scene, "drawn", SEEDS);
            edges(scene, "chance", SEEDS, new int[] {SMALL, -1, 0, 1, 2, 19, 20, 21, BIG}, TWO);
            edges(scene, "count", new int[] {SMALL, -1, 0, 1, 2, 3, 4, 5, 6, BIG});
            edges(scene, "sheet", SHEETS, SORTS, new int[] {SMALL, -1, 0, 1, 39, 40, 41, BIG});
            edges(scene, "cell", SHEETS, new int[] {SMALL, -1, 0, 5, 6, 7, 8, 40, BIG},
                new int[] {SMALL, -32769, -129, -1, 0, 127, 128, 255, 256, 32768, 65535, 65536, BIG});
            edges(scene, "copy", new int[] {-1, 0, 1, 2, 3, 4}, new int[] {SMALL, -1, 0, 1, 6, 7, BIG},
                new int[] {-1, 0, 1, 2, 3, 4}, new int[] {SMALL, -1, 0, 1, 7, 8, BIG},
                new int[] {SMALL, -1, 0, 1, 5, 6, 7, BIG});
            edges(scene, "clocks", SHEETS, SORTS, new int[] {SMALL, -2, -1, 0, 1, 4, 5, 6, 7, BIG - 1, BIG},
                new int[] {SMALL, -1, 0, 1, 3, 6, 7, BIG});
            edges(scene, "taken", DOERS, KINDS);
        }
        shortTexts();
        everyByte();
        System.out.println("EdgesTest: " + asked + " asked, " + wrong + " wrong");
        if (wrong != 0 || asked == 0) {
            System.exit(1);
        }
    }

    // every choice of the arguments, some at once on an object that is as the scene is
    private static void edges(int scene, String name, int[]... of) {
        int choices = 1;
        for (int[] some : of) {
            choices *= some.length;
        }
        Pair pair = null;
        for (int choice = 0; choice < choices; choice++) {
            if (choice % AT_ONCE == 0) {
                pair = placed(scene);
            }
            int rest = choice;
            int[] a = new int[of.length];
            for (int i = a.length - 1; i >= 0; i--) {
                a[i] = of[i][rest % of[i].length];
                rest /= of[i].length;
            }
            pair.call(name, a);
            if (choice % AT_ONCE == AT_ONCE - 1 || choice == choices - 1) {
                lookedAt(pair);
            }
        }
    }

    private static Pair placed(int scene) {
        Pair p = new Pair();
        if (scene == 1) {
            some(p);
        } else if (scene == 2) {
            some(p);
            unfitting(p);
        } else if (scene == 3) {
            full(p);
        }
        return p;
    }

    // a CLOCK that is put on, one that goes on by itself, one that stays; an IMAGE of less; a SHEET of each sort
    private static void some(Pair p) {
        p.call("clock", 0, 0);
        p.call("doer", 0, 4, 1);
        p.call("image");
        p.call("set", 0, 0, 5);
        p.call("clock", 11, -10);
        p.call("clock", 50, 60);
        p.call("doer", 5, 7, 33);
        p.feed("came 40+who;adds 55;minds 2;");
        p.call("text");
        p.call("force", 1);
        p.call("set", 3, 1, 600);
        p.feed("c");
        rows(p, 3);
    }

    private static void unfitting(Pair p) {
        p.call("set", 3, 0, 3);
        p.call("set", 3, 2, 2);
    }

    private static void full(Pair p) {
        p.call("image");
        for (int c = 0; c < 6; c++) {
            p.call("clock", 10 * (c % 3) + c / 5, 30 * c - 60);
        }
        for (int d = 0; d < 5; d++) {
            p.call("doer", d, 2 * d, 63 >> d);
        }
        for (int t = 1; t <= 5; t++) {
            p.feed("came " + 20 * t + ";adds " + 60 / t + ";minds " + t + ";");
            p.call("text");
        }
        p.call("force", 2);
        p.call("set", 3, 5, 1439);
        rows(p, 6);
        for (int i = 0; i < 160; i++) {
            p.call("feed", 32);
        }
    }

    // SHEETS 0 .. 2 of bytes, shorts, ints, the first as long as there are CLOCKS; each tells of CLOCKS two by two
    private static void rows(Pair p, int clocks) {
        for (int s = 0; s < 3; s++) {
            int size = s == 0 ? clocks : 5 + s;
            p.call("sheet", s, s, size);
            p.call("cell", s, 0, 10 * s + 1);
            p.call("cell", s, 1, -s);
            p.call("cell", s, size - 1, s);
        }
    }

    private static void lookedAt(Pair p) {
        for (int what = 0; what < 6; what++) {
            p.call("count", what);
        }
        for (int c = 0; c < 6; c += 2) {
            for (int what = 0; what < 4; what++) {
                p.call("told", c, what);
            }
        }
        for (int d = 0; d < 5; d += 2) {
            for (int what = 4; what < 8; what++) {
                p.call("told", d, what);
            }
        }
        for (int world : new int[] {-1, 1, 2, 31}) {
            p.call("world", world);
            p.call("right", world, 0);
            p.call("right", world, 2);
        }
        p.call("bad", 0);
        p.call("text");
        for (int s = 0; s < 4; s++) {
            rowLookedAt(p, s);
        }
        p.call("back");
        p.call("told", 0, 0);
        p.call("count", 1);
        p.call("count", 5);
    }

    // what stands in a SHEET comes as CLOCKS where there are few, as in the IMAGE
    private static void rowLookedAt(Pair p, int sheet) {
        for (int size : new int[] {0, 3, 6, 40}) {
            p.call("cell", sheet, size - 1, 1);
        }
        p.call("back");
        for (int sort = 0; sort < 3; sort++) {
            p.call("clocks", sheet, sort, 0, 3);
        }
        p.call("told", 0, 0);
        p.call("told", 1, 0);
        p.call("told", 1, 1);
        p.call("tellsBack", sheet, 0);
    }

    private static final String[] TOKENS = {"1", "who", "not", "and", "or", "(", ")", "+", "-", "*", "<", "=", ";",
        "came", "12345", "whom", "?"};

    // each TEXT of up to three TOKENS behind such as open none, four or five
    private static void shortTexts() {
        String[] ahead = {"", "((((", "(((((", "not not not not ", "not not not not not ", "----", "-(-(-",
            "(not(-(", "1<", "1*(((("};
        List<String> some = new ArrayList<>(List.of(""));
        int from = 0;
        for (int length = 1; length <= 3; length++) {
            int to = some.size();
            for (int i = from; i < to; i++) {
                for (String token : TOKENS) {
                    some.add(some.get(i) + token + " ");
                }
            }
            from = to;
        }
        Pair p = new Pair();
        for (String open : ahead) {
            for (String e : some) {
                String text = "came " + open + e + "))))".substring(0, open.startsWith("((((") ? 4 : 0)
                    + ";adds 1;minds 1;";
                p = read(p, text);
            }
        }
        for (String e : some) {
            p = read(p, e + "came 1;adds 1;minds 1;");
            p = read(p, "came 1;adds 1;" + e + "minds 1;" + e);
        }
    }

    // one object reads as many as it is good for
    private static Pair read(Pair p, String text) {
        Pair reads = p.calls + text.length() + 2 > MOST || p.model.count(3) == 6 ? new Pair() : p;
        reads.feed(text);
        reads.call("text");
        return reads;
    }

    private static void everyByte() {
        Pair p = new Pair();
        for (int letter = 0; letter < 256; letter++) {
            String sign = "" + (char) letter;
            p = read(p, sign + "came 1;adds 1;minds 1;");
            p = read(p, "came " + sign + "1;adds 1;minds 1;");
            p = read(p, "came 1" + sign + ";adds 1;minds 1;");
            p = read(p, "came 1;adds wh" + sign + "o;minds 1;");
            p = read(p, "came 1;adds who" + sign + ";minds 1;");
            p = read(p, "came 1;adds 1;minds 1;" + sign);
        }
    }
}
