/** Promises 22 to 28: tellsBack, film, drawn, chance, image, back, count. */
public final class ToldBackTest {
    private static final Due DUE = new Due("ToldBackTest");

    public static void main(String[] args) {
        tellsBackTells();
        tellsBackRefuses();
        tellsBackOfSorts();
        filmBecomes();
        drawnBySeeds();
        chanceOfSeeds();
        imageKeeps();
        imageIsTheLast();
        countCounts();
        DUE.end();
    }

    // three clocks; the second goes on by itself; three doers: to the first, to the third, to both
    private static PutOn three() {
        PutOn p = new PutOn();
        p.clock(0, 0);
        p.clock(11, 0);
        p.clock(20, 0);
        p.doer(0, 0, 1);
        p.doer(0, 0, 4);
        p.doer(0, 0, 5);
        return p;
    }

    private static void row(PutOn p, int sheet, int sort, int... values) {
        DUE.is("sheet", p.sheet(sheet, sort, values.length), 1);
        for (int i = 0; i < values.length; i++) {
            DUE.is("cell", p.cell(sheet, i, values[i]), 1);
        }
    }

    private static void tells(PutOn p, int many, int likeliest, int who) {
        DUE.is("tellsBack(0, 0)", p.tellsBack(0, 0), many);
        DUE.is("tellsBack(0, 1)", p.tellsBack(0, 1), likeliest);
        DUE.is("tellsBack(0, 2)", p.tellsBack(0, 2), who);
    }

    private static void tellsBackTells() {
        PutOn p = three();
        row(p, 0, 0, 1, 1, 1);
        // both RIGHT: by the third alone, or by the first two
        tells(p, 2, 3, 0);
        row(p, 0, 0, 1, 1, 0);
        // the first RIGHT alone: by the first, or by the two that go to the third
        tells(p, 2, 1, 0);
        row(p, 0, 0, 1, 0, 1);
        tells(p, 0, -1, 0);
        row(p, 0, 0, 0, 1, 0);
        tells(p, 2, 0, 0);
        row(p, 0, 0, 2, -1, 7);
        tells(p, 8, 0, 0);
        row(p, 0, 0, 1, 2, 2);
        tells(p, 4, 1, 0);
        Due.text(p, "came 20 + who*30;adds 60;minds 1;");
        p.force(1);
        // 20, 50, 80
        row(p, 0, 0, 1, 1, 1);
        tells(p, 2, 4, 0);
        row(p, 0, 0, 0, 1, 1);
        // {second}: 80 * 50 * 20, {first, third}: 20 * 50 * 80
        tells(p, 2, 2, 0);
        Due.text(p, "came 20 + who*40;adds 60;minds 1;");
        p.force(2);
        // 20, 60, 100: the third came
        row(p, 0, 0, 2, 2, 2);
        tells(p, 4, 6, 4);
        row(p, 0, 0, 0, 1, 2);
        tells(p, 2, 7, 5);
        row(p, 0, 0, 1, 1, 0);
        tells(p, 1, 6, 6);
        row(p, 0, 0, 1, 2, 2);
        tells(p, 2, 6, 4);
        row(p, 0, 0, 0, 0, 0);
        tells(p, 0, -1, 0);
        // of a CHANCE of 1
        PutOn q = three();
        Due.text(q, "came 1 + (who = 2)*98;adds 60;minds 1;");
        q.force(1);
        row(q, 0, 0, 1, 1, 0);
        tells(q, 2, 6, 0);
        q.set(5, 0, 0);
        q.set(5, 1, 1);
        q.set(5, 2, 1);
        // {second}: 99 * 1 * 1, {third}: 99 * 99 * 99, {first and one of these}
        tells(q, 4, 4, 0);
        // what was seen is no matter
        p.set(3, 0, 0);
        p.set(3, 1, 1);
        row(p, 0, 0, 1, 1, 0);
        tells(p, 1, 6, 6);
    }

    private static void tellsBackRefuses() {
        PutOn p = three();
        int big = Integer.MAX_VALUE;
        int small = Integer.MIN_VALUE;
        for (int sheet : new int[] {-1, 4, big, small}) {
            DUE.is("tellsBack(" + sheet + ", 0)", p.tellsBack(sheet, 0), PutOn.BAD);
        }
        DUE.is("missing", p.tellsBack(0, 0), -11);
        for (int what : new int[] {-1, 3, big, small}) {
            DUE.is("missing, tellsBack(0, " + what + ")", p.tellsBack(0, what), PutOn.BAD);
        }
        p.sheet(0, 0, 2);
        DUE.is("too short", p.tellsBack(0, 0), PutOn.BAD);
        p.sheet(0, 0, 4);
        DUE.is("too long", p.tellsBack(0, 1), PutOn.BAD);
        p.sheet(0, 0, 3);
        DUE.is("as long", p.tellsBack(0, 0), 0);
        DUE.is("what, as long", p.tellsBack(0, 3), PutOn.BAD);
        p.clock(0, 0);
        DUE.is("a clock more", p.tellsBack(0, 2), PutOn.BAD);
    }

    private static void tellsBackOfSorts() {
        PutOn p = three();
        for (int sort = 0; sort < 3; sort++) {
            row(p, 0, sort, 1, 1, 0);
            tells(p, 2, 1, 0);
        }
        // what is cut is looked at as it stands there
        row(p, 0, 0, 257, 256 + 1, 256);
        tells(p, 2, 1, 0);
        row(p, 0, 1, 65537, 1, -65536);
        tells(p, 2, 1, 0);
        row(p, 0, 1, 257, 1, 256);
        tells(p, 8, 0, 0);
        row(p, 0, 2, 65537, 257, 65536);
        tells(p, 8, 0, 0);
    }

    private static void filmBecomes() {
        PutOn p = three();
        DUE.is("film(0, 1)", p.film(0, 1), 3);
        tells(p, 2, 1, 0);
        p.sheet(1, 0, 40);
        DUE.is("film(1, 2)", p.film(1, 2), 3);
        DUE.is("its size", p.cell(1, 3, 0), -12);
        DUE.is("tellsBack(1, 1)", p.tellsBack(1, 1), 2);
        // bytes
        p.sheet(2, 0, 3);
        p.sheet(3, 2, 3);
        DUE.is("copy of bytes", p.copy(1, 0, 2, 0, 3), 3);
        DUE.is("copy to ints", p.copy(1, 0, 3, 0, 3), -13);
        DUE.is("film over ints", p.film(3, 0), 3);
        DUE.is("copy of film", p.copy(3, 0, 2, 0, 3), 3);
        DUE.is("what was copied", p.tellsBack(2, 1), 0);
        for (int sheet : new int[] {-1, 4, Integer.MAX_VALUE, Integer.MIN_VALUE}) {
            DUE.is("film(" + sheet + ", 0)", p.film(sheet, 0), PutOn.BAD);
        }
        for (int world : new int[] {-1, 8, 32, Integer.MAX_VALUE, Integer.MIN_VALUE}) {
            DUE.is("film(0, " + world + ")", p.film(0, world), PutOn.BAD);
        }
        tells(p, 2, 1, 0);
        PutOn q = new PutOn();
        DUE.is("film of none", q.film(0, 0), 0);
        DUE.is("a row of none is not missing", q.cell(0, 0, 0), -12);
        DUE.is("tellsBack of none", q.tellsBack(0, 0), 1);
    }

    // the WORLD that is drawn, by the words of the document
    private static int drawnWorld(int seed, int... came) {
        int z = seed;
        int world = 0;
        for (int d = 0; d < came.length; d++) {
            z = z * 1103515245 + 12345;
            int of = (int) ((z & 0xffffffffL) / 512 % 100);
            world += of < came[d] ? 1 << d : 0;
        }
        return world;
    }

    private static final int[] SEEDS = {0, 1, 2, 3, 5, -1, -77, 1000, 123456789, Integer.MAX_VALUE, Integer.MIN_VALUE};

    private static void drawnBySeeds() {
        PutOn p = three();
        for (int seed : SEEDS) {
            int world = drawnWorld(seed, 50, 50, 50);
            DUE.is("drawn(" + seed + ")", p.drawn(seed), p.right(world, 0));
        }
        // 12345 / 512 is 24: he came if came is above that
        PutOn q = new PutOn();
        q.clock(0, 0);
        q.doer(0, 0, 1);
        Due.text(q, "came 24;adds 60;minds 1;");
        Due.text(q, "came 25;adds 60;minds 1;");
        Due.text(q, "came 100;adds 60;minds 1;");
        Due.text(q, "came 0;adds 60;minds 1;");
        q.force(1);
        DUE.is("drawn(0), came 24", q.drawn(0), 0);
        q.force(2);
        DUE.is("drawn(0), came 25", q.drawn(0), 1);
        for (int seed : SEEDS) {
            q.force(3);
            DUE.is("drawn(" + seed + "), came 100", q.drawn(seed), 1);
            q.force(4);
            DUE.is("drawn(" + seed + "), came 0", q.drawn(seed), 0);
        }
    }

    private static void chanceOfSeeds() {
        for (int n = 1; n <= 20; n++) {
            for (int seed : new int[] {0, -9, Integer.MAX_VALUE - 3}) {
                PutOn p = three();
                int good = 0;
                for (int i = 0; i < n; i++) {
                    good += p.right(drawnWorld(seed + i, 50, 50, 50), 0) == 7 ? 1 : 0;
                }
                int divisor = n;
                while (good % divisor != 0 || n % divisor != 0) {
                    divisor--;
                }
                DUE.is("chance(" + seed + ", " + n + ", 0)", p.chance(seed, n, 0), good / divisor);
                DUE.is("chance(" + seed + ", " + n + ", 1)", p.chance(seed, n, 1), n / divisor);
            }
        }
        PutOn p = three();
        for (int n : new int[] {0, -1, 21, Integer.MAX_VALUE, Integer.MIN_VALUE}) {
            DUE.is("chance(0, " + n + ", 0)", p.chance(0, n, 0), PutOn.NO);
        }
        for (int part : new int[] {-1, 2, Integer.MAX_VALUE, Integer.MIN_VALUE}) {
            DUE.is("chance(0, 5, " + part + ")", p.chance(0, 5, part), PutOn.NO);
        }
        PutOn q = new PutOn();
        DUE.is("none are all", q.chance(7, 20, 0), 1);
        DUE.is("none are all, below", q.chance(7, 20, 1), 1);
        q.clock(0, 0);
        DUE.is("never", q.chance(7, 20, 0), 0);
        DUE.is("never, below", q.chance(7, 20, 1), 1);
    }

    private static void imageKeeps() {
        PutOn p = three();
        Due.text(p, "came 20;adds 60;minds 1;");
        DUE.is("back() without", p.back(), PutOn.STATE);
        p.set(0, 0, 11);
        p.set(3, 0, 100);
        p.force(1);
        DUE.is("image()", p.image(), 3);
        p.set(0, 0, -5);
        p.set(1, 0, 4);
        p.set(2, 0, 1);
        p.set(3, 0, 7);
        p.set(3, 2, 8);
        p.set(4, 1, 9);
        p.set(5, 1, 33);
        p.force(0);
        p.clock(31, 2);
        p.doer(4, 4, 4);
        Due.text(p, "came 30;adds 60;minds 1;");
        p.feed(32);
        p.sheet(0, 0, 3);
        DUE.is("back()", p.back(), 3);
        DUE.is("CLOCKS", p.count(0), 3);
        DUE.is("DOERS", p.count(1), 3);
        DUE.is("SAW of one", p.count(2), 1);
        DUE.is("TEXTS stay", p.count(3), 3);
        DUE.is("THE TAPE stays", p.count(4), 1);
        DUE.is("THE RULE", p.count(5), 1);
        DUE.is("a SHEET stays", p.cell(0, 2, 0), 1);
        int[] first = {11, 0, 0, 100};
        for (int what = 0; what < 4; what++) {
            DUE.is("told(0, " + what + ")", p.told(0, what), first[what]);
        }
        DUE.is("SAW of the third", p.told(2, 3), -1);
        DUE.is("NUMBER", p.told(1, 4), 0);
        DUE.is("WAY", p.told(1, 5), 4);
        DUE.is("came by THE RULE", p.told(1, 7), 20);
        DUE.is("AT", p.at(0, 1, 0), 71);
        DUE.is("no fourth clock", p.told(3, 0), -1000);
        DUE.is("no fourth doer", p.told(3, 4), -1000);
        // a new one in the place of one that went
        p.set(3, 0, -1);
        DUE.is("a new fourth clock", p.clock(50, 0), 3);
        DUE.is("its SAW", p.told(3, 3), -1);
        DUE.is("a new fourth doer", p.doer(1, 1, 1), 3);
        DUE.is("his KIND", p.told(3, 6), 1);
        p.live(7);
        DUE.is("AT of what was lived", p.at(0, 0, 0), 71);
        DUE.is("back() again", p.back(), 3);
        DUE.is("AT of what is back", p.at(0, 0, 0), 11);
        DUE.is("OFF again", p.told(0, 0), 11);
        DUE.is("SAW again", p.told(0, 3), 100);
        DUE.is("CLOCKS again", p.count(0), 3);
    }

    private static void imageIsTheLast() {
        PutOn p = new PutOn();
        DUE.is("image() of none", p.image(), 0);
        p.clock(0, 1);
        DUE.is("back() to none", p.back(), 0);
        DUE.is("none", p.count(0), 0);
        p.clock(0, 2);
        p.set(3, 0, 9);
        p.doer(0, 0, 1);
        DUE.is("image() of one", p.image(), 1);
        p.set(0, 0, 3);
        DUE.is("image() of it changed", p.image(), 1);
        p.set(0, 0, 4);
        DUE.is("back() to the last", p.back(), 1);
        DUE.is("OFF of the last", p.told(0, 0), 3);
        DUE.is("SAW of the last", p.told(0, 3), 9);
        DUE.is("DOERS of the last", p.count(1), 1);
    }

    private static void countCounts() {
        PutOn p = three();
        int[] want = {3, 3, 0, 1, 0, 0};
        for (int what = 0; what < 6; what++) {
            DUE.is("count(" + what + ")", p.count(what), want[what]);
        }
        p.set(3, 0, 0);
        p.set(3, 2, 1439);
        DUE.is("seen", p.count(2), 2);
        Due.text(p, "came 1;adds 1;minds 1;");
        DUE.is("TEXTS", p.count(3), 2);
        p.feed(1);
        p.feed(2);
        DUE.is("bytes", p.count(4), 2);
        p.force(1);
        DUE.is("THE RULE", p.count(5), 1);
        for (int what : new int[] {-1, 6, Integer.MAX_VALUE, Integer.MIN_VALUE}) {
            DUE.is("count(" + what + ")", p.count(what), PutOn.BAD);
        }
    }
}
