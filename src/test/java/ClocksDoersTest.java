/** Promises 1 to 5: a new object, clock, doer, set, told. */
public final class ClocksDoersTest {
    private static final Due DUE = new Due("ClocksDoersTest");

    public static void main(String[] args) {
        newObject();
        clockComes();
        doerComes();
        setChanges();
        setRefuses();
        toldTells();
        DUE.end();
    }

    private static void newObject() {
        PutOn p = new PutOn();
        DUE.is("new count(0)", p.count(0), 0);
        DUE.is("new count(1)", p.count(1), 0);
        DUE.is("new count(2)", p.count(2), 0);
        DUE.is("new count(3)", p.count(3), 1);
        DUE.is("new count(4)", p.count(4), 0);
        DUE.is("new count(5)", p.count(5), 0);
        DUE.is("new told(0, 0)", p.told(0, 0), -1000);
        DUE.is("new told(0, 4)", p.told(0, 4), -1000);
        DUE.is("new world(0)", p.world(0), 1);
        DUE.is("new world(1)", p.world(1), PutOn.NO);
        DUE.is("new back()", p.back(), PutOn.STATE);
        for (int s = 0; s < 4; s++) {
            DUE.is("new cell(" + s + ", 0, 0)", p.cell(s, 0, 0), -11);
        }
        PutOn other = new PutOn();
        p.clock(0, 0);
        DUE.is("two objects have nothing together", other.count(0), 0);
    }

    private static void clockComes() {
        PutOn p = new PutOn();
        int[] no = {-1, -10, 2, 9, 12, 19, 52, 59, 60, 61, 100, Integer.MIN_VALUE, Integer.MAX_VALUE};
        for (int what : no) {
            DUE.is("clock(" + what + ", 0)", p.clock(what, 0), PutOn.BAD);
        }
        for (int off : new int[] {-121, 121, Integer.MIN_VALUE, Integer.MAX_VALUE}) {
            DUE.is("clock(0, " + off + ")", p.clock(0, off), PutOn.BAD);
        }
        DUE.is("none came", p.count(0), 0);
        DUE.is("clock(51, -120)", p.clock(51, -120), 0);
        DUE.is("clock(0, 120)", p.clock(0, 120), 1);
        DUE.is("its ROOM", p.told(0, 1), 5);
        DUE.is("its SELF", p.told(0, 2), 1);
        DUE.is("its OFF", p.told(0, 0), -120);
        DUE.is("its SAW", p.told(0, 3), -1);
        DUE.is("the other's ROOM", p.told(1, 1), 0);
        DUE.is("the other's SELF", p.told(1, 2), 0);
        DUE.is("the other's OFF", p.told(1, 0), 120);
        for (int i = 2; i < 6; i++) {
            DUE.is("clock " + i, p.clock(10 * i, i), i);
        }
        DUE.is("a seventh", p.clock(0, 0), PutOn.FULL);
        DUE.is("BAD comes ahead of FULL", p.clock(2, 0), PutOn.BAD);
        DUE.is("BAD OFF comes ahead of FULL", p.clock(0, 121), PutOn.BAD);
        DUE.is("six stay", p.count(0), 6);
    }

    private static void doerComes() {
        PutOn p = new PutOn();
        for (int kind : new int[] {-1, 6, Integer.MIN_VALUE, Integer.MAX_VALUE}) {
            DUE.is("doer(" + kind + ", 0, 0)", p.doer(kind, 0, 0), PutOn.BAD);
        }
        for (int number : new int[] {-1, 10, Integer.MIN_VALUE, Integer.MAX_VALUE}) {
            DUE.is("doer(0, " + number + ", 0)", p.doer(0, number, 0), PutOn.BAD);
        }
        for (int way : new int[] {-1, 64, Integer.MIN_VALUE, Integer.MAX_VALUE}) {
            DUE.is("doer(0, 0, " + way + ")", p.doer(0, 0, way), PutOn.BAD);
        }
        DUE.is("none came", p.count(1), 0);
        DUE.is("doer(5, 9, 63)", p.doer(5, 9, 63), 0);
        DUE.is("doer(0, 0, 0)", p.doer(0, 0, 0), 1);
        DUE.is("his KIND", p.told(0, 6), 5);
        DUE.is("his NUMBER", p.told(0, 4), 9);
        DUE.is("his WAY", p.told(0, 5), 63);
        DUE.is("doer(4, 1, 2)", p.doer(4, 1, 2), 2);
        DUE.is("doer(3, 1, 2)", p.doer(3, 1, 2), 3);
        DUE.is("doer(2, 1, 2)", p.doer(2, 1, 2), 4);
        DUE.is("a sixth", p.doer(1, 1, 2), PutOn.FULL);
        DUE.is("BAD comes ahead of FULL", p.doer(6, 0, 0), PutOn.BAD);
        DUE.is("five stay", p.count(1), 5);
    }

    private static PutOn oneOfEach() {
        PutOn p = new PutOn();
        p.clock(0, 0);
        p.doer(0, 0, 0);
        return p;
    }

    private static void setChanges() {
        PutOn p = oneOfEach();
        DUE.is("set OFF", p.set(0, 0, -120), 0);
        DUE.is("set OFF again", p.set(0, 0, 120), -120);
        DUE.is("OFF", p.told(0, 0), 120);
        DUE.is("set ROOM", p.set(1, 0, 5), 0);
        DUE.is("set ROOM again", p.set(1, 0, 0), 5);
        DUE.is("set SELF", p.set(2, 0, 1), 0);
        DUE.is("set SELF again", p.set(2, 0, 0), 1);
        DUE.is("set SAW", p.set(3, 0, 1439), -1);
        DUE.is("set SAW 0", p.set(3, 0, 0), 1439);
        DUE.is("set SAW NONE", p.set(3, 0, -1), 0);
        DUE.is("SAW", p.told(0, 3), -1);
        DUE.is("set NUMBER", p.set(4, 0, 9), 0);
        DUE.is("set NUMBER again", p.set(4, 0, 0), 9);
        DUE.is("set WAY", p.set(5, 0, 63), 0);
        DUE.is("set WAY again", p.set(5, 0, 0), 63);
        DUE.is("WAY", p.told(0, 5), 0);

        PutOn q = oneOfEach();
        q.set(5, 0, 1);
        DUE.is("AT before", q.at(0, 1, 0), 60);
        q.set(0, 0, 7);
        DUE.is("AT with OFF 7", q.at(0, 1, 0), 67);
        q.set(1, 0, 3);
        DUE.is("AT in another ROOM", q.at(0, 1, 0), 7);
        q.set(5, 0, 8);
        DUE.is("AT with another WAY", q.at(0, 1, 0), 67);
        q.set(2, 0, 1);
        DUE.is("AT of SELF in world 0", q.at(0, 0, 0), 67);
        DUE.is("right(0, 1) before", q.right(0, 1), 1);
        q.set(3, 0, 8);
        DUE.is("TIME of what it said", q.right(0, 2), 1);
    }

    private static void setRefuses() {
        PutOn p = oneOfEach();
        int[][] no = {{-1, 0, 0}, {6, 0, 0}, {7, 0, 0}, {0, 1, 0}, {0, -1, 0}, {3, 1, 0}, {4, 1, 0}, {5, -1, 0},
            {0, 0, 121}, {0, 0, -121}, {1, 0, 6}, {1, 0, -1}, {2, 0, 2}, {2, 0, -1}, {3, 0, 1440}, {3, 0, -2},
            {4, 0, 10}, {4, 0, -1}, {5, 0, 64}, {5, 0, -1}, {0, Integer.MAX_VALUE, 0}, {0, Integer.MIN_VALUE, 0},
            {Integer.MAX_VALUE, 0, 0}, {Integer.MIN_VALUE, 0, 0}, {0, 0, Integer.MAX_VALUE}};
        for (int[] a : no) {
            DUE.is("set(" + a[0] + ", " + a[1] + ", " + a[2] + ")", p.set(a[0], a[1], a[2]), -1000);
        }
        for (int what = 0; what < 7; what++) {
            DUE.is("nothing changed, told(0, " + what + ")", p.told(0, what), what == 3 ? -1 : 0);
        }
    }

    private static void toldTells() {
        PutOn p = oneOfEach();
        p.clock(31, 44);
        p.doer(4, 7, 21);
        p.set(3, 1, 700);
        int[] clock = {44, 3, 1, 700};
        for (int what = 0; what < 4; what++) {
            DUE.is("told(1, " + what + ")", p.told(1, what), clock[what]);
        }
        DUE.is("told(1, 4)", p.told(1, 4), 7);
        DUE.is("told(1, 5)", p.told(1, 5), 21);
        DUE.is("told(1, 6)", p.told(1, 6), 4);
        DUE.is("told(1, 7)", p.told(1, 7), 50);
        int[][] no = {{2, 0}, {-1, 0}, {2, 3}, {2, 4}, {-1, 7}, {2, 7}, {0, 8}, {0, -1},
            {Integer.MAX_VALUE, 7}, {Integer.MIN_VALUE, 0}, {0, Integer.MAX_VALUE}, {0, Integer.MIN_VALUE}};
        for (int[] a : no) {
            DUE.is("told(" + a[0] + ", " + a[1] + ")", p.told(a[0], a[1]), -1000);
        }
        Due.text(p, "came who*10+rooms;adds 1;minds 1;");
        p.force(1);
        DUE.is("came of doer 0", p.told(0, 7), 0);
        DUE.is("came of doer 1, of 3 rooms", p.told(1, 7), 13);
        Due.text(p, "came 101 - 2*who*101;adds 1;minds 1;");
        p.force(2);
        DUE.is("came above its bound", p.told(0, 7), 100);
        DUE.is("came below its bound", p.told(1, 7), 0);
        Due.text(p, "came 7 + clock + room + off + done;adds 1;minds 1;");
        p.force(3);
        DUE.is("came knows no clock", p.told(1, 7), 7);
    }
}
