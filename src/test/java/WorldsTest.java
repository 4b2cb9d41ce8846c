/** Promises 9 to 11: at, right, world; with what each KIND does and adds, which WORLDS fit, their CHANCES. */
public final class WorldsTest {
    private static final Due DUE = new Due("WorldsTest");

    public static void main(String[] args) {
        selfGoesOn();
        doersGoTheirWay();
        trustingTrusts();
        shyDares();
        markingMarks();
        halvingHalves();
        zealousDoesTwice();
        addsKnowsWhere();
        atRefuses();
        worldsFit();
        rightRefuses();
        chancesAreTold();
        DUE.end();
    }

    private static PutOn with(int... clocks) {
        PutOn p = new PutOn();
        for (int i = 0; i + 1 < clocks.length; i += 2) {
            p.clock(clocks[i], clocks[i + 1]);
        }
        return p;
    }

    private static void at(PutOn p, int clock, int world, int at, int done) {
        String of = "at(" + clock + ", " + world + ", ";
        DUE.is(of + "0)", p.at(clock, world, 0), at);
        DUE.is(of + "1)", p.at(clock, world, 1), done);
        DUE.is(of + "2)", p.at(clock, world, 2), at == 60 ? 1 : 0);
        DUE.is("bit " + clock + " of right(" + world + ", 0)", p.right(world, 0) >> clock & 1, at == 60 ? 1 : 0);
    }

    private static void selfGoesOn() {
        PutOn p = with(1, 0, 0, 60, 11, -10, 0, 0);
        p.doer(0, 0, 63);
        at(p, 0, 0, 60, 1);
        at(p, 1, 0, 60, 0);
        at(p, 2, 0, 50, 1);
        at(p, 3, 0, 0, 0);
        at(p, 0, 1, 60, 1);
        at(p, 1, 1, 120, 1);
        at(p, 2, 1, 50, 1);
        at(p, 3, 1, 60, 1);
        DUE.is("right(0, 0)", p.right(0, 0), 3);
        DUE.is("right(1, 0)", p.right(1, 0), 9);
    }

    private static void doersGoTheirWay() {
        PutOn p = with(0, 0, 10, 0, 20, 0, 30, 0, 40, 0, 50, 0);
        p.doer(0, 0, 1 + 4 + 32);
        p.doer(0, 0, 4 + 8);
        p.doer(0, 0, 0);
        // the DOERS (bits) who go to each ROOM
        int[] by = {1, 0, 3, 2, 0, 1};
        for (int world = 0; world < 8; world++) {
            for (int c = 0; c < 6; c++) {
                int done = Integer.bitCount(by[c] & world);
                at(p, c, world, 60 * done, done);
            }
        }
    }

    private static void trustingTrusts() {
        PutOn p = with(0, 0, 0, 30, 0, 1, 0, -120);
        p.doer(1, 5, 1);
        // 5 modulo 4 clocks: the second is trusted
        at(p, 0, 1, 30, 1);
        at(p, 1, 1, 30, 0);
        at(p, 2, 1, 1, 0);
        at(p, 3, 1, 30, 1);
        p.set(4, 0, 2);
        at(p, 0, 1, 0, 0);
        at(p, 3, 1, 1, 1);

        // what is trusted is looked at as it is then, not as it was
        PutOn q = with(0, 0, 10, 0);
        q.doer(0, 0, 1);
        q.doer(1, 0, 3);
        at(q, 1, 2, 0, 0);
        at(q, 1, 3, 60, 1);
        at(q, 0, 3, 60, 1);
        PutOn r = with(0, 0, 10, 0);
        r.doer(1, 0, 3);
        r.doer(0, 0, 1);
        at(r, 1, 3, 0, 0);
        at(r, 0, 3, 60, 1);
        // and so is the one that may be put on
        PutOn s = with(0, 50, 10, 0);
        s.doer(0, 0, 2);
        s.doer(1, 0, 2);
        at(s, 1, 2, 50, 1);
        at(s, 1, 3, 60, 1);
        // a SELF that is trusted is on already
        PutOn t = with(1, 0, 0, 0);
        t.doer(1, 0, 1);
        at(t, 1, 1, 60, 1);
    }

    private static void shyDares() {
        int[] most = {0, 0, 0, 0, 1, 1, 1, 1, 2, 2};
        for (int number = 0; number < 10; number++) {
            PutOn p = with(0, 0);
            p.doer(0, 0, 0);
            p.doer(0, 0, 0);
            p.doer(0, 0, 0);
            p.doer(2, number, 1);
            for (int world = 0; world < 8; world++) {
                int does = Integer.bitCount(world) <= most[number] ? 1 : 0;
                at(p, 0, 8 + world, 60 * does, does);
            }
        }
        // those who come behind him do not count
        PutOn p = with(0, 0);
        p.doer(2, 0, 1);
        p.doer(0, 0, 0);
        at(p, 0, 3, 60, 1);
    }

    private static void markingMarks() {
        PutOn p = with(0, 0, 0, 29, 0, 30, 0, 100, 10, 10);
        p.doer(3, 3, 3);
        at(p, 0, 1, 60, 1);
        at(p, 1, 1, 89, 1);
        at(p, 2, 1, 90, 1);
        at(p, 3, 1, 100, 0);
        at(p, 4, 1, 70, 1);
        p.set(0, 3, 59);
        at(p, 0, 1, 59, 1);
        at(p, 1, 1, 59, 1);
        at(p, 2, 1, 30, 0);
        // not what was done before him
        PutOn q = with(0, 0, 10, 100);
        q.doer(0, 0, 1);
        q.doer(3, 1, 1);
        Due.text(q, "came 1;adds 5;minds 1;");
        q.force(1);
        at(q, 0, 1, 5, 1);
        at(q, 0, 2, 60, 1);
        at(q, 0, 3, 5, 1);
        // a TRUSTING would
        q.doer(1, 1, 1);
        at(q, 0, 5, 100, 2);
    }

    private static void halvingHalves() {
        PutOn p = with(0, 0, 0, 0, 0, 0, 0, 0);
        p.doer(0, 0, 0);
        p.doer(4, 3, 1);
        at(p, 0, 2, 0, 0);
        at(p, 1, 2, 30, 1);
        at(p, 2, 2, 0, 0);
        at(p, 3, 2, 30, 1);
        // he is SHY
        at(p, 1, 3, 0, 0);
        p.set(4, 1, 4);
        at(p, 0, 3, 30, 1);
        at(p, 1, 3, 0, 0);
        Due.text(p, "came 1;adds 7;minds 1;");
        Due.text(p, "came 1;adds -7;minds 1;");
        p.force(1);
        at(p, 0, 2, 3, 1);
        p.force(2);
        at(p, 0, 2, -3, 1);
    }

    private static void zealousDoesTwice() {
        PutOn p = with(0, 0);
        p.doer(5, 4, 1);
        p.doer(5, 5, 1);
        p.doer(5, 9, 1);
        p.doer(5, 0, 1);
        at(p, 0, 1, 60, 1);
        at(p, 0, 2, 120, 1);
        at(p, 0, 4, 120, 1);
        at(p, 0, 8, 60, 1);
        at(p, 0, 3, 180, 2);
        at(p, 0, 6, 240, 2);
        at(p, 0, 7, 180, 2);
        at(p, 0, 15, 180, 2);
        Due.text(p, "came 1;adds 120;minds 1;");
        p.force(1);
        // twice what is bounded
        at(p, 0, 6, 480, 2);
    }

    private static void addsKnowsWhere() {
        PutOn p = with(20, 11, 50, -4);
        p.doer(0, 9, 0);
        p.doer(0, 8, 32 + 4 + 1);
        p.doer(0, 7, 63);
        Due.text(p, "came 1;adds clock*100+who*10+rooms;minds 1;");
        Due.text(p, "came 1;adds room*20+off;minds 1;");
        Due.text(p, "came 1;adds 10+done*5;minds 1;");
        p.force(1);
        at(p, 0, 2, 11 + 13, 1);
        at(p, 1, 2, -4 + 113, 1);
        at(p, 0, 4, 11 + 26, 1);
        at(p, 1, 4, -4 + 120, 1);
        p.force(2);
        at(p, 0, 2, 11 + 51, 1);
        // OFF stays as it was, also of one that was put on
        at(p, 0, 6, 11 + 51 + 51, 2);
        at(p, 1, 2, -4 + 96, 1);
        p.force(3);
        at(p, 0, 2, 11 + 10, 1);
        at(p, 0, 6, 11 + 10 + 15, 2);
    }

    private static void atRefuses() {
        PutOn p = with(0, 0);
        p.doer(0, 0, 1);
        int[][] no = {{1, 0, 0}, {-1, 0, 0}, {0, 2, 0}, {0, -1, 0}, {0, 0, 3}, {0, 0, -1}, {6, 0, 0}, {0, 32, 0},
            {Integer.MAX_VALUE, 0, 0}, {Integer.MIN_VALUE, 0, 0}, {0, Integer.MAX_VALUE, 0},
            {0, Integer.MIN_VALUE, 0}, {0, 0, Integer.MAX_VALUE}, {0, 0, Integer.MIN_VALUE}};
        for (int[] a : no) {
            DUE.is("at(" + a[0] + ", " + a[1] + ", " + a[2] + ")", p.at(a[0], a[1], a[2]), -100000);
        }
    }

    private static void fits(PutOn p, int world, int fits, int time) {
        DUE.is("right(" + world + ", 1)", p.right(world, 1), fits);
        DUE.is("right(" + world + ", 2)", p.right(world, 2), time);
    }

    private static void worldsFit() {
        PutOn p = with(0, 0, 10, -30, 21, 0);
        p.doer(0, 0, 1);
        p.doer(0, 0, 2);
        // nothing seen: all fit, none has a TIME
        for (int w = 0; w < 4; w++) {
            fits(p, w, 1, -1);
        }
        p.set(3, 0, 30);
        fits(p, 0, 1, 90);
        fits(p, 1, 1, 30);
        fits(p, 2, 1, 90);
        // the second is 30 behind the first, if both or none were put on
        p.set(3, 1, 0);
        fits(p, 0, 1, 90);
        fits(p, 1, 0, -1);
        fits(p, 2, 0, -1);
        fits(p, 3, 1, 30);
        p.set(3, 2, 30);
        fits(p, 0, 0, -1);
        fits(p, 3, 1, 30);
        // around midnight
        PutOn q = with(0, 0, 0, -120, 0, 120);
        q.set(3, 0, 1400);
        fits(q, 0, 1, 20);
        q.set(3, 1, 1280);
        q.set(3, 2, 80);
        fits(q, 0, 1, 20);
        q.set(3, 2, 81);
        fits(q, 0, 0, -1);
        PutOn r = with(0, 120);
        r.set(3, 0, 0);
        fits(r, 0, 1, 1380);
        r.set(3, 0, 60);
        fits(r, 0, 1, 0);
        r.set(3, 0, 59);
        fits(r, 0, 1, 1439);
        r.set(3, 0, 1439);
        fits(r, 0, 1, 1379);
    }

    private static void rightRefuses() {
        PutOn p = with(0, 60);
        p.doer(0, 0, 1);
        int[][] no = {{2, 0}, {-1, 0}, {0, 3}, {0, -1}, {-1, 1}, {2, 2}, {Integer.MAX_VALUE, 0},
            {Integer.MIN_VALUE, 0}, {0, Integer.MAX_VALUE}, {0, Integer.MIN_VALUE}};
        for (int[] a : no) {
            DUE.is("right(" + a[0] + ", " + a[1] + ")", p.right(a[0], a[1]), -100000);
        }
        DUE.is("right(0, 0)", p.right(0, 0), 1);
        DUE.is("right(1, 0)", p.right(1, 0), 0);
    }

    private static void chancesAreTold() {
        PutOn p = with(0, 0);
        DUE.is("world(0) of no DOERS", p.world(0), 1);
        DUE.is("world(NONE) of no DOERS", p.world(-1), 1);
        p.doer(0, 0, 1);
        p.doer(0, 0, 0);
        p.doer(0, 0, 3);
        Due.text(p, "came 20 + who*30 + rooms;adds 60;minds 1;");
        p.force(1);
        // 21, 50, 82
        long[] came = {21, 50, 82};
        long all = 0;
        for (int w = 0; w < 8; w++) {
            long chance = 1;
            for (int d = 0; d < 3; d++) {
                chance *= (w >> d & 1) == 1 ? came[d] : 100 - came[d];
            }
            DUE.is("world(" + w + ")", p.world(w), chance);
            all += chance;
        }
        DUE.is("ALL", p.world(-1), 1000000);
        DUE.is("ALL, added up", all, 1000000);
        // ALL is of those that fit: the first and the third have put the clock on twice, or not
        p.clock(0, 60);
        p.set(3, 0, 100);
        p.set(3, 1, 100);
        DUE.is("none fits", p.world(-1), 0);
        p.set(1, 1, 1);
        // doer 0 goes to ROOM 0, doer 2 to both: alike if doer 0 alone came to the first
        DUE.is("ALL of those that fit", p.world(-1), 21L * 18 * 100 + 21L * 82 * 100);
        DUE.is("CHANCE of one that doesn't fit", p.world(0), 79L * 50 * 18);
        for (int w : new int[] {8, -2, 32, Integer.MAX_VALUE, Integer.MIN_VALUE}) {
            DUE.is("world(" + w + ")", p.world(w), PutOn.NO);
        }
        PutOn q = new PutOn();
        for (int d = 0; d < 5; d++) {
            q.doer(0, 0, 0);
        }
        Due.text(q, "came 100;adds 60;minds 1;");
        q.force(1);
        DUE.is("the greatest CHANCE", q.world(31), 10000000000L);
        DUE.is("the least CHANCE", q.world(30), 0);
        DUE.is("ALL of it", q.world(-1), 10000000000L);
        DUE.is("world(32)", q.world(32), PutOn.NO);
    }
}
