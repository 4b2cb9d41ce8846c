import java.util.ArrayList;
import java.util.Arrays;
import java.util.List;

/**
 * The sections "Promise 1" to "Promise 33" and "Terms", part 3: from where to where each number goes, what is
 * answered outside of it, and that nothing has changed then.
 */
public final class PromisesTest {
    private static final Due DUE = new Due("PromisesTest");

    public static void main(String[] args) {
        newObject();
        clocksAndDoers();
        setAndTold();
        texts();
        worlds();
        known();
        goodAndBad();
        toldBack();
        sheets();
        copies();
        clocksOfSheets();
        taken();
        DUE.end();
    }

    private static void says(String sentence, String... lines) {
        Script.says(DUE, sentence, lines);
    }

    // each of these calls is refused with the answer; what is looked at answers the same ahead of them and behind them
    private static void refuses(String promise, String[] placed, String answer, String calls, String... looked) {
        List<String> lines = new ArrayList<>(Arrays.asList(placed));
        lines.addAll(Arrays.asList(looked));
        for (String call : calls.split("; ")) {
            lines.add(call + " = " + answer);
        }
        lines.addAll(Arrays.asList(looked));
        says(promise + " refuses with " + answer, lines.toArray(new String[0]));
    }

    private static final String[] NONE = {};
    // one of each: a CLOCK that is put on, one that goes on by itself; one more TEXT; SHEETS of bytes, shorts, ints
    private static final String[] SOME = {"clock(0, 5) = 0", "clock(11, -5) = 1", "doer(3, 4, 1) = 0",
        "doer(0, 2, 3) = 1", "text came 40;adds 55;minds 3; = 1", "force(1) = 0", "set(3, 1, 700) = -1", "feed(63) = 1",
        "image() = 2", "sheet(0, 0, 2) = 1", "sheet(1, 1, 4) = 1", "sheet(2, 2, 0) = 1", "cell(0, 1, 1) = 1"};
    private static final String[] HOUSE = {"count(0) = 2", "count(1) = 2", "count(2) = 1", "told(0, 0) = 5",
        "told(0, 1) = 0", "told(0, 2) = 0", "told(0, 3) = -1", "told(1, 0) = -5", "told(1, 1) = 1", "told(1, 2) = 1",
        "told(1, 3) = 700", "told(0, 4) = 4", "told(0, 5) = 1", "told(0, 6) = 3", "told(1, 4) = 2", "told(1, 5) = 3",
        "told(1, 6) = 0", "told(1, 7) = 40", "at(0, 2, 0) = 60", "right(2, 0) = 1", "right(2, 2) = 705",
        "world(2) = 2400"};
    private static final String[] TEXTS = {"count(3) = 2", "count(4) = 1", "count(5) = 1"};
    private static final String[] ROWS = {"tellsBack(0, 0) = 0", "tellsBack(1, 0) = -2", "cell(0, 2, 0) = -12",
        "cell(1, 3, 0) = 1", "cell(1, 4, 0) = -12", "cell(2, 0, 0) = -12", "cell(3, 0, 0) = -11"};

    private static void newObject() {
        says("No CLOCKS, no DOERS", "count(0) = 0", "count(1) = 0", "count(2) = 0", "count(3) = 1", "count(4) = 0",
            "count(5) = 0", "told(0, 0) = -1000", "told(0, 7) = -1000", "world(-1) = 1", "back() = -3",
            "cell(0, 0, 0) = -11", "cell(3, 0, 0) = -11", "taken(0, 0) = -11", "text() = -100");
    }

    private static void clocksAndDoers() {
        refuses("clock", SOME, "-2",
            "clock(-1, 0); clock(2, 0); clock(9, 0); clock(12, 0); clock(52, 0); clock(60, 0); "
            + "clock(-10, 0); clock(0, -121); clock(0, 121); clock(SMALL, 0); clock(BIG, 0); clock(0, SMALL); "
            + "clock(0, BIG)", HOUSE);
        refuses("doer", SOME, "-2", "doer(-1, 0, 0); doer(6, 0, 0); doer(0, -1, 0); doer(0, 10, 0); doer(0, 0, -1); "
            + "doer(0, 0, 64); doer(SMALL, 0, 0); doer(BIG, 0, 0); doer(0, SMALL, 0); doer(0, BIG, 0); "
            + "doer(0, 0, SMALL); doer(0, 0, BIG)", HOUSE);
        refuses("clock", new String[] {"6 times clock(51, 7) = 5"}, "-4", "clock(0, 0); clock(11, 1)", "count(0) = 6",
            "told(5, 0) = 7", "told(5, 1) = 5", "told(5, 2) = 1", "told(0, 0) = 7", "bad(0) = 6");
        refuses("doer", new String[] {"5 times doer(4, 9, 63) = 4"}, "-4", "doer(0, 0, 0); doer(1, 1, 1)",
            "count(1) = 5", "told(4, 4) = 9", "told(4, 5) = 63", "told(4, 6) = 4", "told(0, 4) = 9",
            "world(31) = 312500000");
    }

    private static void setAndTold() {
        refuses("set", SOME, "-1000",
            "set(-1, 0, 0); set(6, 0, 0); set(7, 0, 0); set(0, 2, 0); set(0, -1, 0); set(3, 2, 0); set(4, 2, 0); "
            + "set(4, -1, 0); set(5, 2, 0); set(0, 0, -121); set(0, 0, 121); set(1, 0, -1); set(1, 0, 6); "
            + "set(2, 0, -1); set(2, 0, 2); set(3, 0, -2); set(3, 0, 1440); set(4, 0, -1); set(4, 0, 10); "
            + "set(5, 0, -1); set(5, 0, 64); set(SMALL, 0, 0); set(BIG, 0, 0); set(0, SMALL, 0); set(5, BIG, 0); "
            + "set(0, 0, SMALL); set(5, 0, BIG)", HOUSE);
        says("set of CLOCKS where there are no DOERS, of DOERS where there are no CLOCKS", "set(0, 0, 0) = -1000",
            "set(4, 0, 0) = -1000", "doer(0, 1, 2) = 0", "set(0, 0, 0) = -1000", "set(3, 0, -1) = -1000",
            "set(4, 0, 3) = 1", "set(5, 0, 4) = 2", "back() = -3", "told(0, 0) = -1000", "told(0, 3) = -1000",
            "told(0, 4) = 3", "told(0, 7) = 50");
        says("told of CLOCKS where there are no DOERS", "clock(0, 3) = 0", "told(0, 0) = 3", "told(0, 3) = -1",
            "told(0, 4) = -1000", "told(0, 7) = -1000", "set(4, 0, 0) = -1000", "set(5, 0, 0) = -1000");
        refuses("told", SOME, "-1000",
            "told(0, -1); told(0, 8); told(2, 0); told(2, 3); told(2, 4); told(2, 7); told(-1, 0); "
            + "told(-1, 4); told(SMALL, 0); told(BIG, 7); told(0, SMALL); told(0, BIG)", HOUSE);
    }

    private static void texts() {
        refuses("feed", SOME, "-2", "feed(-1); feed(256); feed(SMALL); feed(BIG)", TEXTS);
        says("feed: A byte (0 .. 255)", "feed(0) = 1", "feed(255) = 2", "feed(256) = -2", "feed(-1) = -2",
            "count(4) = 2", "text() = -100", "feed(32) = 1", "feed(255) = 2", "text() = -101");
        refuses("feed", new String[] {"160 times feed(10) = 160"}, "-4", "feed(0); feed(255); feed(99)",
            "count(4) = 160");
        says("text: its number; -100 less the place of its FAULT", "text came 1;adds 1;minds 1; = 1", "text() = -100",
            "text came 1;adds 1;minds 1;; = -122", "text came 1;adds 1;minds 1; = 2", "160 times feed(32) = 160",
            "text() = -260", "159 times feed(32) = 159", "feed(41) = 160", "text() = -259", "count(3) = 3",
            "count(5) = 0");
        says("text: FULL: THE TAPE stays", "text came 1;adds 1;minds 1; = 1", "text came 1;adds 1;minds 1; = 2",
            "text came 1;adds 1;minds 1; = 3", "text came 1;adds 1;minds 1; = 4", "text came 1;adds 1;minds 1; = 5",
            "text() = -4", "count(4) = 0", "text came 1;adds 1;minds 1; = -4", "count(4) = 22", "feed(59) = 23",
            "text() = -4", "count(4) = 23", "count(3) = 6", "137 times feed(32) = 160", "feed(32) = -4", "text() = -4",
            "count(4) = 160");
        refuses("force", SOME, "-2", "force(-1); force(2); force(6); force(SMALL); force(BIG)", TEXTS);
        says("force: which was", "text came 0;adds 0;minds 0; = 1", "text came 1;adds 1;minds 1; = 2", "force(0) = 0",
            "force(2) = 0", "force(2) = 2", "force(3) = -2", "count(5) = 2", "force(1) = 2", "force(-1) = -2",
            "force(0) = 1");
    }

    private static void worlds() {
        refuses("at", SOME, "-100000",
            "at(-1, 0, 0); at(2, 0, 0); at(0, -1, 0); at(0, 4, 0); at(0, 0, -1); at(0, 0, 3); "
            + "at(SMALL, 0, 0); at(BIG, 0, 0); at(0, SMALL, 0); at(0, BIG, 0); at(0, 0, SMALL); at(0, 0, BIG)",
            "at(0, 0, 0) = 5", "at(1, 3, 0) = 55", "at(1, 3, 1) = 1", "at(0, 3, 2) = 1");
        refuses("right", SOME, "-100000", "right(-1, 0); right(4, 0); right(0, -1); right(0, 3); right(SMALL, 0); "
            + "right(BIG, 1); right(0, SMALL); right(0, BIG)", "right(0, 0) = 0", "right(3, 0) = 1", "right(0, 1) = 1",
            "right(3, 2) = 705");
        refuses("world", SOME, "NO", "world(-2); world(4); world(SMALL); world(BIG)", "world(-1) = 10000",
            "world(0) = 3600", "world(3) = 1600");
    }

    private static void known() {
        refuses("odds", SOME, "NO", "odds(-1, 0); odds(2, 0); odds(0, -1); odds(0, 2); odds(SMALL, 0); odds(BIG, 1); "
            + "odds(0, SMALL); odds(0, BIG)", "odds(0, 0) = 2", "odds(0, 1) = 5", "odds(1, 0) = 0", "odds(1, 1) = 1");
        refuses("time", SOME, "-2", "time(-1); time(2); time(SMALL); time(BIG)", "time(0) = 705", "time(1) = 1");
        refuses("sure", SOME, "NO", "sure(-1); sure(2); sure(SMALL); sure(BIG)", "sure(0) = 1", "sure(1) = 1");
        says("sure: NO: part; there is no TIME", "clock(0, 0) = 0", "sure(0) = NO", "sure(1) = NO", "sure(2) = NO",
            "set(3, 0, 0) = -1", "sure(0) = 1", "sure(1) = 1", "sure(2) = NO");
    }

    private static void goodAndBad() {
        refuses("say", SOME, "-2", "say(-1); say(2); say(SMALL); say(BIG)", "say(0) = 2", "say(1) = 1");
        refuses("bad", SOME, "NO", "bad(-1); bad(2); bad(SMALL); bad(BIG)", "bad(0) = 24", "bad(1) = 5");
        refuses("late", SOME, "-2", "late(-1); late(2); late(SMALL); late(BIG)", "late(0) = 55", "late(1) = 5");
        refuses("live", SOME, "-2", "live(-1); live(4); live(SMALL); live(BIG)", HOUSE);
        says("live: OFF of all is AT less 60 (-120 .. 120, else the bound)", "clock(0, -60) = 0", "clock(0, -59) = 1",
            "clock(0, -61) = 2", "clock(1, 120) = 3", "clock(10, 120) = 4", "doer(0, 0, 2) = 0", "doer(0, 0, 2) = 1",
            "doer(0, 0, 2) = 2", "image() = 5", "live(0) = 0", "told(0, 0) = -120", "told(1, 0) = -119",
            "told(2, 0) = -120", "told(3, 0) = 120", "told(4, 0) = 60", "back() = 5", "live(1) = 0", "told(4, 0) = 120",
            "live(1) = 0", "told(4, 0) = 120", "told(3, 0) = 120", "set(0, 4, 119) = 120", "live(1) = 0",
            "told(4, 0) = 119", "set(0, 4, 0) = 119", "live(1) = 1", "told(4, 0) = 0");
        says("live: SAW NONE; ROOMS, SELF, DOERS, THE RULE stay", "clock(21, 3) = 0", "clock(30, 60) = 1",
            "doer(2, 5, 8) = 0", "text came 9;adds 9;minds 9; = 1", "force(1) = 0", "set(3, 0, 1) = -1",
            "set(3, 1, 2) = -1", "count(2) = 2", "live(0) = 1", "count(2) = 0", "told(0, 3) = -1", "told(1, 3) = -1",
            "told(0, 1) = 2", "told(0, 2) = 1", "told(0, 0) = 3", "told(1, 0) = 0", "told(0, 4) = 5", "told(0, 5) = 8",
            "count(5) = 1");
    }

    private static void toldBack() {
        refuses("tellsBack", SOME, "-2", "tellsBack(-1, 0); tellsBack(4, 0); tellsBack(0, -1); tellsBack(0, 3); "
            + "tellsBack(1, 0); tellsBack(2, 0); tellsBack(3, 3); tellsBack(3, -1); tellsBack(SMALL, 0); "
            + "tellsBack(BIG, 0); tellsBack(0, SMALL); tellsBack(0, BIG)", ROWS);
        refuses("tellsBack", SOME, "-11", "tellsBack(3, 0); tellsBack(3, 1); tellsBack(3, 2)", ROWS);
        refuses("film", SOME, "-2", "film(-1, 0); film(4, 0); film(0, -1); film(0, 4); film(3, 4); film(SMALL, 0); "
            + "film(BIG, 0); film(0, SMALL); film(0, BIG)", ROWS);
        says("film: A SHEET truly becomes which are RIGHT in a WORLD (bytes; 1, 0)", "clock(0, 60) = 0",
            "clock(0, 0) = 1", "clock(1, 0) = 2", "doer(0, 0, 1) = 0", "film(3, 0) = 3", "cell(3, 3, 0) = -12",
            "tellsBack(3, 0) = 1", "tellsBack(3, 1) = 0", "film(3, 1) = 3", "tellsBack(3, 1) = 1", "sheet(2, 0, 3) = 1",
            "copy(3, 0, 2, 0, 3) = 3", "tellsBack(2, 1) = 1", "sheet(2, 1, 3) = 1", "copy(3, 0, 2, 0, 3) = -13",
            "film(2, 0) = 3", "copy(2, 0, 3, 0, 3) = 3", "tellsBack(3, 1) = 0", "sheet(3, -1, 0) = 1", "film(3, 0) = 3",
            "image() = 3", "back() = 3", "clocks(3, 0, 1, 1) = 1", "told(3, 0) = 1", "told(3, 1) = 0");
        refuses("chance", SOME, "NO", "chance(0, 0, 0); chance(0, -1, 0); chance(0, 21, 0); chance(0, 1, -1); "
            + "chance(0, 1, 2); chance(0, SMALL, 0); chance(0, BIG, 1); chance(0, 1, SMALL); chance(0, 1, BIG)",
            "chance(0, 1, 0) = 0", "chance(0, 1, 1) = 1", "chance(0, 20, 0) = 0", "chance(BIG, 20, 1) = 1",
            "chance(SMALL, 20, 1) = 1");
        refuses("back", NONE, "-3", "back(); back()", "count(0) = 0", "count(1) = 0", "count(5) = 0");
        refuses("count", SOME, "-2", "count(-1); count(6); count(SMALL); count(BIG)", HOUSE);
    }

    private static void sheets() {
        refuses("sheet", SOME, "-2",
            "sheet(-1, 0, 1); sheet(4, 0, 1); sheet(0, -2, 1); sheet(0, 3, 1); sheet(0, 0, 41); "
            + "sheet(0, 1, BIG); sheet(SMALL, 0, 1); sheet(BIG, 0, 1); sheet(0, SMALL, 1); sheet(0, BIG, 1); "
            + "sheet(4, -1, 0); sheet(-1, -1, 0); sheet(4, 0, -1); sheet(0, 3, -1); sheet(0, 3, 41)", ROWS);
        refuses("sheet", SOME, "-14", "sheet(0, 0, -1); sheet(1, 1, -1); sheet(2, 2, SMALL); sheet(3, 0, -1)", ROWS);
        says("sheet: a row of n (0 .. 40) of a sort", "sheet(0, 0, 0) = 1", "cell(0, 0, 0) = -12", "sheet(0, 1, 1) = 1",
            "cell(0, 0, 0) = 1", "cell(0, 1, 0) = -12", "sheet(0, 2, 39) = 1", "cell(0, 38, 0) = 1",
            "cell(0, 39, 0) = -12", "sheet(0, 0, 40) = 1", "cell(0, 39, 0) = 1", "cell(0, 40, 0) = -12",
            "sheet(0, 0, 41) = -2", "cell(0, 39, 0) = 1", "sheet(3, 2, 40) = 1", "cell(3, 39, 0) = 1");
        says("sheet: all 0, whatever stood there", "clock(0, 0) = 0", "sheet(1, 2, 3) = 1", "cell(1, 0, 51) = 1",
            "cell(1, 1, 7) = 1", "cell(1, 2, 11) = 1", "sheet(1, 2, 3) = 1", "clocks(1, 2, 0, 1) = 1", "told(1, 0) = 0",
            "told(1, 1) = 0", "told(1, 2) = 0", "cell(1, 0, 51) = 1", "cell(1, 1, 7) = 1", "sheet(1, -1, 3) = 1",
            "sheet(1, 1, 2) = 1", "clocks(1, 1, 0, 1) = 1", "told(2, 0) = 0", "told(2, 1) = 0");
        says("sheet: or missing (sort -1: n does not matter)", "sheet(0, 0, 1) = 1", "sheet(0, -1, 0) = 1",
            "cell(0, 0, 0) = -11", "sheet(0, -1, -1) = 1", "sheet(0, -1, 41) = 1", "sheet(0, -1, SMALL) = 1",
            "sheet(0, -1, BIG) = 1", "cell(0, 0, 0) = -11", "sheet(0, 0, 1) = 1", "sheet(0, -1, 41) = 1",
            "cell(0, 0, 0) = -11", "sheet(4, -1, 0) = -2");
        refuses("cell", SOME, "-2", "cell(-1, 0, 0); cell(4, 0, 0); cell(4, -1, 0); cell(SMALL, 0, 0); cell(BIG, 0, 0)",
            ROWS);
        refuses("cell", SOME, "-11", "cell(3, 0, 0); cell(3, -1, 0); cell(3, 40, 0)", ROWS);
        refuses("cell", SOME, "-12", "cell(0, -1, 9); cell(0, 2, 9); cell(1, 4, 9); cell(2, 0, 9); cell(0, SMALL, 9); "
            + "cell(0, BIG, 9)", ROWS);
        cellsAreCut();
    }

    private static void cellsAreCut() {
        // OFF 2, OFF -120, OFF 120 of what is left; what is left of 127 and 128 is none
        says("cell: of bytes its lowest 8 bits", "sheet(0, 0, 12) = 1", "cell(0, 1, 258) = 1", "cell(0, 3, 136) = 1",
            "cell(0, 5, -136) = 1", "cell(0, 7, 127) = 1", "cell(0, 9, 128) = 1", "cell(0, 11, -254) = 1",
            "clocks(0, 0, 0, 6) = 4", "told(0, 0) = 2", "told(1, 0) = -120", "told(2, 0) = 120", "told(3, 0) = 2");
        says("cell: of shorts its lowest 16 bits", "sheet(0, 1, 12) = 1", "cell(0, 1, 65538) = 1",
            "cell(0, 3, 65416) = 1", "cell(0, 5, -65416) = 1", "cell(0, 7, 32767) = 1", "cell(0, 9, 258) = 1",
            "cell(0, 11, SMALL) = 1", "clocks(0, 1, 0, 6) = 4", "told(0, 0) = 2", "told(1, 0) = -120",
            "told(2, 0) = 120", "told(3, 0) = 0");
        says("cell: of ints all", "sheet(0, 2, 10) = 1", "cell(0, 1, 65538) = 1", "cell(0, 3, 258) = 1",
            "cell(0, 5, -120) = 1", "cell(0, 7, SMALL) = 1", "cell(0, 9, 120) = 1", "clocks(0, 2, 0, 5) = 2",
            "told(0, 0) = -120", "told(1, 0) = 120");
    }

    private static void copies() {
        // 0: 1 0 1, 1: 7 7 7 7
        String[] two = {"clock(0, 60) = 0", "clock(0, 0) = 1", "clock(0, 60) = 2", "film(0, 0) = 3",
            "sheet(1, 0, 4) = 1", "cell(1, 0, 7) = 1", "cell(1, 1, 7) = 1", "cell(1, 2, 7) = 1", "cell(1, 3, 7) = 1",
            "sheet(2, 1, 4) = 1"};
        refuses("copy", two, "-2",
            "copy(-1, 0, 1, 0, 1); copy(4, 0, 1, 0, 1); copy(0, 0, -1, 0, 1); copy(0, 0, 4, 0, 1); "
            + "copy(3, 0, 4, 0, 1); copy(BIG, 0, 0, 0, 1); copy(0, 0, SMALL, 0, 1)", "tellsBack(0, 0) = 1");
        refuses("copy", two, "-11",
            "copy(3, 0, 1, 0, 1); copy(0, 0, 3, 0, 1); copy(3, 0, 3, 0, 0); copy(3, 9, 2, 9, -1)",
            "tellsBack(0, 0) = 1");
        refuses("copy", two, "-13",
            "copy(0, 0, 2, 0, 1); copy(2, 0, 0, 0, 1); copy(0, 9, 2, 9, -1); copy(0, 0, 2, 0, 0)",
            "tellsBack(0, 0) = 1");
        refuses("copy", two, "-12",
            "copy(1, 0, 0, 0, -1); copy(1, 0, 0, 0, 4); copy(1, -1, 0, 0, 1); copy(1, 0, 0, -1, 1); "
            + "copy(1, 4, 0, 0, 1); copy(1, 0, 0, 3, 1); copy(1, 3, 0, 0, 2); copy(1, 0, 0, 2, 2); "
            + "copy(1, 0, 0, 1, 3); copy(1, 0, 0, 0, BIG); copy(1, 0, 0, 0, SMALL); copy(1, BIG, 0, 0, 1); copy(1, 0, 0, BIG, 1); "
            + "copy(1, 1, 0, 1, BIG); copy(1, SMALL, 0, 0, 1); copy(1, 0, 0, SMALL, 1); copy(1, -1, 0, -1, 0); "
            + "copy(1, 5, 0, 0, 0); copy(1, 0, 0, 4, 0)", "tellsBack(0, 0) = 1");
        says("copy: n numbers from item i on come to item j on (as they were)", "sheet(0, 2, 6) = 1",
            "cell(0, 1, 1) = 1", "cell(0, 3, 2) = 1", "cell(0, 5, 3) = 1", "copy(0, 0, 0, 2, 4) = 4", "image() = 0",
            "clocks(0, 2, 0, 3) = 3", "told(0, 0) = 1", "told(1, 0) = 1", "told(2, 0) = 2", "back() = 0",
            "cell(0, 5, 3) = 1", "copy(0, 2, 0, 0, 4) = 4", "clocks(0, 2, 0, 3) = 3", "told(0, 0) = 1",
            "told(1, 0) = 3", "told(2, 0) = 3", "back() = 0", "copy(0, 0, 0, 0, 6) = 6", "clocks(0, 2, 0, 3) = 3",
            "told(0, 0) = 1", "told(2, 0) = 3");
        says("copy: from none to all", "sheet(0, 1, 40) = 1", "sheet(1, 1, 40) = 1", "cell(0, 39, 9) = 1",
            "copy(0, 40, 1, 40, 0) = 0", "copy(0, 0, 1, 0, 0) = 0", "copy(0, 0, 1, 0, 40) = 40",
            "copy(0, 0, 1, 0, 41) = -12", "clocks(1, 1, 38, 1) = 1", "told(0, 0) = 9", "copy(0, 39, 1, 1, 1) = 1",
            "clocks(1, 1, 0, 1) = 1", "told(1, 0) = 9", "copy(0, 39, 1, 1, 2) = -12", "copy(0, 0, 1, 39, 1) = 1",
            "clocks(1, 1, 38, 1) = 1", "told(2, 0) = 0", "sheet(2, 1, 0) = 1", "copy(2, 0, 2, 0, 0) = 0",
            "copy(0, 0, 2, 0, 1) = -12", "copy(2, 0, 0, 0, 1) = -12");
    }

    private static void clocksOfSheets() {
        refuses("clocks", SOME, "-2",
            "clocks(-1, 0, 0, 1); clocks(4, 0, 0, 1); clocks(0, -1, 0, 1); clocks(0, 3, 0, 1); "
            + "clocks(0, 0, 0, -1); clocks(0, 0, 0, 7); clocks(3, 0, 0, 7); clocks(3, -1, 0, 1); clocks(1, 0, 0, 7); "
            + "clocks(BIG, 0, 0, 1); clocks(0, SMALL, 0, 1); clocks(0, 0, 0, SMALL); clocks(0, 0, 0, BIG)", HOUSE);
        refuses("clocks", SOME, "-13",
            "clocks(0, 1, 0, 1); clocks(0, 2, 0, 0); clocks(1, 0, 9, 1); clocks(1, 2, 0, 1); "
            + "clocks(2, 0, 0, 0); clocks(2, 1, -1, 6)", HOUSE);
        refuses("clocks", SOME, "-11", "clocks(3, 0, 0, 1); clocks(3, 1, 0, 0); clocks(3, 2, -1, 6)", HOUSE);
        refuses("clocks", SOME, "-12",
            "clocks(0, 0, 1, 1); clocks(0, 0, 2, 1); clocks(0, 0, -1, 1); clocks(0, 0, -2, 1); "
            + "clocks(1, 1, 3, 1); clocks(2, 2, 0, 1); clocks(0, 0, BIG, 1); clocks(0, 0, SMALL, 6); "
            + "clocks(0, 0, 2147483646, 6)", HOUSE);
        says("clocks: n of them (0 .. 6), two by two, from one on", "sheet(0, 0, 13) = 1", "cell(0, 2, 1) = 1",
            "cell(0, 12, 6) = 1", "cell(0, 3, 50) = 1", "clocks(0, 0, 1, 0) = 0", "count(0) = 0",
            "clocks(0, 0, 1, 6) = 6", "count(0) = 6", "told(0, 1) = 0", "told(0, 0) = 1", "told(1, 1) = 5",
            "told(1, 0) = 0", "told(5, 0) = 6");
        says("clocks: how many came (others are left out)", "sheet(0, 2, 12) = 1", "cell(0, 0, 2) = 1",
            "cell(0, 3, 121) = 1", "cell(0, 4, 51) = 1", "cell(0, 5, 120) = 1", "cell(0, 6, 52) = 1",
            "cell(0, 9, -121) = 1", "cell(0, 10, 1) = 1", "cell(0, 11, -120) = 1", "clocks(0, 2, 0, 6) = 2",
            "count(0) = 2", "told(0, 1) = 5", "told(0, 2) = 1", "told(0, 0) = 120", "told(1, 0) = -120",
            "told(1, 1) = 0", "told(1, 2) = 1", "clocks(0, 2, 0, 3) = 1", "count(0) = 3");
        says("clocks: those for whom there is no room are left out", "4 times clock(0, 0) = 3", "sheet(0, 1, 12) = 1",
            "cell(0, 1, 1) = 1", "cell(0, 3, 2) = 1", "cell(0, 5, 3) = 1", "clocks(0, 1, 0, 6) = 2", "told(4, 0) = 1",
            "told(5, 0) = 2", "clocks(0, 1, 0, 6) = 0", "clocks(0, 1, 1, 6) = -12", "clocks(0, 1, 12, 1) = -12",
            "clocks(0, 1, 0, 0) = 0", "count(0) = 6");
        says("clocks: -12: what stood ahead came", "sheet(0, 1, 5) = 1", "cell(0, 1, 1) = 1", "cell(0, 3, 2) = 1",
            "clocks(0, 1, 0, 3) = -12", "count(0) = 2", "told(0, 0) = 1", "told(1, 0) = 2", "clocks(0, 1, 2, 6) = -12",
            "count(0) = 3", "told(2, 0) = 2", "clocks(0, 1, 4, 1) = -12", "count(0) = 3", "clocks(0, 1, -2, 3) = -12",
            "count(0) = 3", "clocks(0, 1, 3, 1) = 0", "clocks(0, 1, 3, 2) = -12", "cell(0, 3, 0) = 1",
            "clocks(0, 1, 3, 1) = 1", "clocks(0, 1, 0, 2) = 2", "count(0) = 6");
    }

    private static void taken() {
        refuses("taken", SOME, "-2", "taken(0, -1); taken(0, 6); taken(9, 6); taken(0, SMALL); taken(0, BIG)", HOUSE);
        refuses("taken", SOME, "-11", "taken(-1, 0); taken(2, 0); taken(5, 5); taken(SMALL, 0); taken(BIG, 0)", HOUSE);
        refuses("taken", SOME, "-13", "taken(0, 2); taken(0, 4); taken(0, 5); taken(1, 1); taken(1, 2); taken(1, 3); "
            + "taken(1, 4); taken(1, 5)", HOUSE);
        says("taken for one of KIND k, or one under that one (also by others between)", "doer(0, 9, 0) = 0",
            "doer(1, 8, 0) = 1", "doer(2, 7, 0) = 2", "doer(3, 6, 0) = 3", "doer(4, 5, 0) = 4", "taken(0, 0) = 9",
            "taken(0, 1) = -13", "taken(1, 0) = 8", "taken(1, 1) = 8", "taken(1, 2) = -13", "taken(1, 3) = -13",
            "taken(2, 0) = 7", "taken(2, 1) = -13", "taken(2, 2) = 7", "taken(2, 4) = -13", "taken(3, 0) = 6",
            "taken(3, 1) = 6", "taken(3, 2) = -13", "taken(3, 3) = 6", "taken(4, 0) = 5", "taken(4, 1) = -13",
            "taken(4, 2) = 5", "taken(4, 3) = -13", "taken(4, 4) = 5", "taken(4, 5) = -13", "taken(5, 0) = -11");
        says("taken: ZEALOUS under DOER", "doer(5, 0, 0) = 0", "taken(0, 0) = 0", "taken(0, 1) = -13",
            "taken(0, 2) = -13", "taken(0, 3) = -13", "taken(0, 4) = -13", "taken(0, 5) = 0", "set(4, 0, 9) = 0",
            "taken(0, 5) = 9");
    }
}
