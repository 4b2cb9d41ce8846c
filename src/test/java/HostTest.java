/** Promises 29 to 33: sheet, cell, copy, clocks, taken. */
public final class HostTest {
    private static final Due DUE = new Due("HostTest");
    private static final int BIG = Integer.MAX_VALUE, SMALL = Integer.MIN_VALUE;

    public static void main(String[] args) {
        sheetBecomes();
        sheetRefuses();
        cellBecomes();
        copyCopies();
        copyRefuses();
        clocksCome();
        clocksOutside();
        clocksRefuse();
        takenFor();
        DUE.end();
    }

    private static void sheetBecomes() {
        PutOn p = new PutOn();
        for (int s = 0; s < 4; s++) {
            DUE.is("missing at first", p.cell(s, 0, 0), -11);
            for (int sort = 0; sort < 3; sort++) {
                DUE.is("sheet(" + s + ", " + sort + ", 40)", p.sheet(s, sort, 40), 1);
                DUE.is("its last", p.cell(s, 39, 0), 1);
                DUE.is("behind its last", p.cell(s, 40, 0), -12);
            }
            DUE.is("sheet of none", p.sheet(s, 0, 0), 1);
            DUE.is("is not missing", p.cell(s, 0, 0), -12);
        }
        for (int n : new int[] {0, -1, 41, BIG, SMALL}) {
            p.sheet(0, 0, 1);
            DUE.is("sheet(0, -1, " + n + ")", p.sheet(0, -1, n), 1);
            DUE.is("missing", p.cell(0, 0, 0), -11);
        }
        // all 0 again: as a CLOCK it is ROOM 0, OFF 0
        p.sheet(1, 0, 2);
        p.cell(1, 0, 51);
        p.cell(1, 1, 9);
        p.sheet(1, 0, 2);
        DUE.is("clocks of it", p.clocks(1, 0, 0, 1), 1);
        DUE.is("its ROOM", p.told(0, 1), 0);
        DUE.is("its OFF", p.told(0, 0), 0);
    }

    private static void sheetRefuses() {
        PutOn p = new PutOn();
        p.sheet(0, 2, 3);
        for (int s : new int[] {-1, 4, BIG, SMALL}) {
            DUE.is("sheet(" + s + ", 0, 1)", p.sheet(s, 0, 1), PutOn.BAD);
            DUE.is("sheet(" + s + ", 0, -1)", p.sheet(s, 0, -1), PutOn.BAD);
            DUE.is("sheet(" + s + ", -1, 1)", p.sheet(s, -1, 1), PutOn.BAD);
        }
        for (int sort : new int[] {-2, 3, BIG, SMALL}) {
            DUE.is("sheet(0, " + sort + ", 1)", p.sheet(0, sort, 1), PutOn.BAD);
            DUE.is("sheet(0, " + sort + ", -1)", p.sheet(0, sort, -1), PutOn.BAD);
        }
        for (int n : new int[] {41, BIG}) {
            DUE.is("sheet(0, 0, " + n + ")", p.sheet(0, 0, n), PutOn.BAD);
        }
        for (int n : new int[] {-1, SMALL}) {
            DUE.is("sheet(0, 0, " + n + ")", p.sheet(0, 0, n), -14);
        }
        DUE.is("as it was", p.cell(0, 2, 0), 1);
        DUE.is("as long as it was", p.cell(0, 3, 0), -12);
    }

    private static void cellBecomes() {
        PutOn p = new PutOn();
        for (int s : new int[] {-1, 4, BIG, SMALL}) {
            DUE.is("cell(" + s + ", 0, 0)", p.cell(s, 0, 0), PutOn.BAD);
        }
        DUE.is("missing", p.cell(0, -1, 0), -11);
        p.sheet(0, 0, 2);
        for (int i : new int[] {-1, 2, BIG, SMALL}) {
            DUE.is("cell(0, " + i + ", 0)", p.cell(0, i, 0), -12);
        }
        // how it is cut, seen as a CLOCK's OFF: bytes, shorts, ints
        int[] values = {5, -5, 256 + 5, 65536 + 5, 256 - 5, 65536 - 5, 128, BIG, SMALL};
        int[][] offs = {{5, -5, 5, 5, -5, -5, -1000, -1, 0},
            {5, -5, -1000, 5, -1000, -5, -1000, -1, 0},
            {5, -5, -1000, -1000, -1000, -1000, -1000, -1000, -1000}};
        for (int sort = 0; sort < 3; sort++) {
            for (int i = 0; i < values.length; i++) {
                PutOn q = new PutOn();
                q.sheet(2, sort, 2);
                DUE.is("cell(2, 1, " + values[i] + ")", q.cell(2, 1, values[i]), 1);
                q.clocks(2, sort, 0, 1);
                DUE.is("of sort " + sort + " " + values[i], q.told(0, 0), offs[sort][i]);
            }
        }
    }

    // what stands in a SHEET of bytes of OFFS, two by two behind ROOMS
    private static void standsThere(PutOn p, int sheet, int sort, int... offs) {
        p.image();
        p.clocks(sheet, sort, 0, offs.length);
        for (int c = 0; c < offs.length; c++) {
            DUE.is("OFF of clock " + c, p.told(c, 0), offs[c]);
        }
        p.back();
    }

    private static PutOn rows(int sort) {
        PutOn p = new PutOn();
        p.sheet(0, sort, 8);
        p.sheet(1, sort, 8);
        for (int i = 0; i < 4; i++) {
            p.cell(0, 2 * i + 1, i + 1);
        }
        return p;
    }

    private static void copyCopies() {
        for (int sort = 0; sort < 3; sort++) {
            PutOn p = rows(sort);
            standsThere(p, 0, sort, 1, 2, 3, 4);
            DUE.is("copy(0, 2, 1, 4, 4)", p.copy(0, 2, 1, 4, 4), 4);
            standsThere(p, 1, sort, 0, 0, 2, 3);
            standsThere(p, 0, sort, 1, 2, 3, 4);
            DUE.is("copy on itself, forth", p.copy(0, 0, 0, 2, 6), 6);
            standsThere(p, 0, sort, 1, 1, 2, 3);
            DUE.is("copy on itself, back", p.copy(0, 4, 0, 2, 4), 4);
            standsThere(p, 0, sort, 1, 2, 3, 3);
            DUE.is("copy of all", p.copy(0, 0, 1, 0, 8), 8);
            standsThere(p, 1, sort, 1, 2, 3, 3);
            DUE.is("copy of none", p.copy(0, 8, 1, 8, 0), 0);
            standsThere(p, 1, sort, 1, 2, 3, 3);
        }
    }

    private static void copyRefuses() {
        PutOn p = rows(1);
        p.sheet(2, 2, 8);
        for (int s : new int[] {-1, 4, BIG, SMALL}) {
            DUE.is("copy(" + s + ", 0, 0, 0, 1)", p.copy(s, 0, 0, 0, 1), PutOn.BAD);
            DUE.is("copy(0, 0, " + s + ", 0, 1)", p.copy(0, 0, s, 0, 1), PutOn.BAD);
            DUE.is("copy(3, 0, " + s + ", 0, -1)", p.copy(3, 0, s, 0, -1), PutOn.BAD);
        }
        DUE.is("copy from one missing", p.copy(3, 0, 0, 0, -1), -11);
        DUE.is("copy to one missing", p.copy(0, 0, 3, 0, -1), -11);
        DUE.is("copy of unlike sorts", p.copy(0, 0, 2, 0, -1), -13);
        DUE.is("copy of unlike sorts back", p.copy(2, 0, 0, 0, 1), -13);
        int[][] no = {{-1, 0, 1}, {0, -1, 1}, {0, 0, -1}, {0, 0, 9}, {1, 0, 8}, {0, 1, 8}, {8, 0, 1}, {0, 8, 1},
            {9, 0, 0}, {0, 9, 0}, {BIG, 0, 1}, {0, BIG, 1}, {1, 1, BIG}, {BIG, BIG, BIG}, {SMALL, 0, 1},
            {0, SMALL, 1}, {0, 0, SMALL}, {-1, -1, 0}, {2, 2, BIG - 1}};
        for (int[] a : no) {
            DUE.is("copy(0, " + a[0] + ", 1, " + a[1] + ", " + a[2] + ")", p.copy(0, a[0], 1, a[1], a[2]), -12);
        }
        standsThere(p, 0, 1, 1, 2, 3, 4);
        standsThere(p, 1, 1, 0, 0, 0, 0);
    }

    private static void clocksCome() {
        PutOn p = new PutOn();
        int[] row = {99, 10, 5, 52, 0, 21, -120, 0, 121, 51, 120, 40, 0};
        p.sheet(3, 1, row.length);
        for (int i = 0; i < row.length; i++) {
            p.cell(3, i, row[i]);
        }
        DUE.is("clocks(3, 1, 1, 6)", p.clocks(3, 1, 1, 6), 4);
        DUE.is("CLOCKS", p.count(0), 4);
        int[] rooms = {1, 2, 5, 4};
        int[] selves = {0, 1, 1, 0};
        int[] offs = {5, -120, 120, 0};
        for (int c = 0; c < 4; c++) {
            DUE.is("ROOM " + c, p.told(c, 1), rooms[c]);
            DUE.is("SELF " + c, p.told(c, 2), selves[c]);
            DUE.is("OFF " + c, p.told(c, 0), offs[c]);
            DUE.is("SAW " + c, p.told(c, 3), -1);
        }
        // no more than have room
        DUE.is("clocks(3, 1, 1, 6) again", p.clocks(3, 1, 1, 6), 2);
        DUE.is("six CLOCKS", p.count(0), 6);
        DUE.is("clocks of none", p.clocks(3, 1, 1, 0), 0);
        DUE.is("clocks when full", p.clocks(3, 1, 1, 6), 0);
        DUE.is("outside when full", p.clocks(3, 1, 2, 6), -12);
    }

    private static void clocksOutside() {
        PutOn p = new PutOn();
        p.sheet(0, 0, 5);
        DUE.is("the third is half outside", p.clocks(0, 0, 0, 3), -12);
        DUE.is("what stood ahead came", p.count(0), 2);
        DUE.is("from 3 on", p.clocks(0, 0, 3, 2), -12);
        DUE.is("one came", p.count(0), 3);
        for (int from : new int[] {-1, 4, 5, 6, BIG, BIG - 1, SMALL, -2}) {
            DUE.is("clocks(0, 0, " + from + ", 2)", p.clocks(0, 0, from, 2), -12);
            DUE.is("none came", p.count(0), 3);
        }
        DUE.is("from 3 on, one", p.clocks(0, 0, 3, 1), 1);
        p.sheet(1, 2, 0);
        DUE.is("a row of none", p.clocks(1, 2, 0, 1), -12);
        DUE.is("none of a row of none", p.clocks(1, 2, 0, 0), 0);
    }

    private static void clocksRefuse() {
        PutOn p = new PutOn();
        p.sheet(0, 0, 12);
        for (int s : new int[] {-1, 4, BIG, SMALL}) {
            DUE.is("clocks(" + s + ", 0, 0, 1)", p.clocks(s, 0, 0, 1), PutOn.BAD);
        }
        for (int sort : new int[] {-1, 3, BIG, SMALL}) {
            DUE.is("clocks(0, " + sort + ", 0, 1)", p.clocks(0, sort, 0, 1), PutOn.BAD);
            DUE.is("clocks(1, " + sort + ", 0, 1)", p.clocks(1, sort, 0, 1), PutOn.BAD);
        }
        for (int n : new int[] {-1, 7, BIG, SMALL}) {
            DUE.is("clocks(0, 0, 0, " + n + ")", p.clocks(0, 0, 0, n), PutOn.BAD);
            DUE.is("clocks(0, 1, 0, " + n + ")", p.clocks(0, 1, 0, n), PutOn.BAD);
            DUE.is("clocks(1, 0, 0, " + n + ")", p.clocks(1, 0, 0, n), PutOn.BAD);
        }
        for (int n = 0; n < 2; n++) {
            DUE.is("of another sort", p.clocks(0, 1, 0, n), -13);
            DUE.is("of another sort, outside", p.clocks(0, 2, -1, n), -13);
            for (int sort = 0; sort < 3; sort++) {
                DUE.is("missing is of any sort", p.clocks(1, sort, 0, n), -11);
            }
        }
        DUE.is("none came", p.count(0), 0);
    }

    private static void takenFor() {
        int[][] under = {{0}, {0, 1}, {0, 2}, {0, 1, 3}, {0, 2, 4}, {0, 5}};
        for (int kind = 0; kind < 6; kind++) {
            PutOn p = new PutOn();
            p.doer(0, 1, 0);
            p.doer(kind, 7, 0);
            for (int k = 0; k < 6; k++) {
                boolean is = false;
                for (int u : under[kind]) {
                    is |= u == k;
                }
                DUE.is("a doer of KIND " + kind + ", taken(1, " + k + ")", p.taken(1, k), is ? 7 : -13);
            }
            p.set(4, 1, 0);
            DUE.is("his NUMBER", p.taken(1, 0), 0);
            for (int doer : new int[] {-1, 2, 5, BIG, SMALL}) {
                DUE.is("taken(" + doer + ", 0)", p.taken(doer, 0), -11);
                DUE.is("taken(" + doer + ", 6)", p.taken(doer, 6), PutOn.BAD);
            }
            for (int k : new int[] {-1, 6, BIG, SMALL}) {
                DUE.is("taken(0, " + k + ")", p.taken(0, k), PutOn.BAD);
            }
        }
    }
}
