/** Promises 18 to 21: say, bad, late, live. */
public final class GoodBadTest {
    private static final Due DUE = new Due("GoodBadTest");

    public static void main(String[] args) {
        saySaysWho();
        badnessIsTold();
        mindsKnowsWhich();
        lateIsTold();
        liveIsTrue();
        liveRefuses();
        DUE.end();
    }

    private static void say(PutOn p, int world, int right) {
        DUE.is("say(0)", p.say(0), world);
        DUE.is("say(1)", p.say(1), right);
    }

    private static void saySaysWho() {
        PutOn p = new PutOn();
        say(p, 0, 0);
        p.clock(0, 0);
        say(p, 0, 0);
        p.doer(0, 0, 2);
        say(p, 0, 0);
        p.doer(0, 0, 1);
        say(p, 2, 1);
        // of like ones the least as bits
        p.doer(0, 0, 1);
        say(p, 2, 1);
        p.set(5, 0, 1);
        say(p, 1, 1);
        // most are RIGHT ahead of fewest DOERS
        p.clock(10, 0);
        p.clock(20, 0);
        p.set(5, 0, 2);
        p.set(5, 1, 4);
        say(p, 7, 3);
        // fewest DOERS ahead of least as bits: the third does what the others do together
        p.set(5, 2, 6);
        say(p, 4, 2);
        p.set(5, 2, 7);
        say(p, 4, 3);
        // of no CHANCE, or not fitting, is no matter
        Due.text(p, "came 0;adds 60;minds 1;");
        p.force(1);
        p.set(3, 0, 0);
        p.set(3, 1, 7);
        DUE.is("none fits", p.world(-1), 0);
        say(p, 4, 3);
        for (int what : new int[] {-1, 2, Integer.MAX_VALUE, Integer.MIN_VALUE}) {
            DUE.is("say(" + what + ")", p.say(what), PutOn.BAD);
        }
    }

    private static void bad(PutOn p, long above, long below) {
        DUE.is("bad(0)", p.bad(0), above);
        DUE.is("bad(1)", p.bad(1), below);
    }

    private static void badnessIsTold() {
        PutOn p = new PutOn();
        bad(p, 0, 1);
        p.clock(0, 60);
        bad(p, 0, 1);
        p.clock(0, 0);
        bad(p, 1, 1);
        p.doer(0, 0, 1);
        // came: the first is wrong, not: the second
        bad(p, 1, 1);
        p.clock(10, 0);
        bad(p, 2, 1);
        p.doer(0, 0, 2);
        bad(p, 3, 2);
        Due.text(p, "came 20;adds 60;minds 1 + clock*2;");
        p.force(1);
        // the first 1, if the first doer came (20 of 100), else the second 3; the third 5, if the other didn't:
        // 20 * 1 + 80 * 3 + 80 * 5 is 660, by 100
        bad(p, 33, 5);
        p.set(3, 0, 10);
        p.set(3, 2, 10 + 1440 - 60);
        // the third is 60 behind the first: both came (AT 120, 60) or none (60, 0)
        DUE.is("ALL", p.world(-1), 20 * 20 + 80 * 80);
        // 400 * 1 + 6400 * (3 + 5) is 51600, by 6800
        bad(p, 129, 17);
        p.set(3, 2, 11);
        bad(p, PutOn.NO, PutOn.NO);
        for (int part : new int[] {-1, 2, Integer.MAX_VALUE, Integer.MIN_VALUE}) {
            DUE.is("bad(" + part + ")", p.bad(part), PutOn.NO);
        }
        PutOn q = new PutOn();
        for (int c = 0; c < 6; c++) {
            q.clock(0, 0);
        }
        for (int d = 0; d < 5; d++) {
            q.doer(0, 0, 0);
        }
        Due.text(q, "came 99;adds 60;minds 99;");
        q.force(1);
        bad(q, 594, 1);
        for (int part : new int[] {-1, 2}) {
            DUE.is("bad(" + part + ") where ALL is not 0", q.bad(part), PutOn.NO);
        }
    }

    private static void mindsKnowsWhich() {
        String[] minds = {"clock", "room", "off", "done", "who", "rooms", "clock*30+room*4+done"};
        int[] want = {1, 3, 40, 2, 0, 0, 44};
        PutOn p;
        for (int i = 0; i < minds.length; i++) {
            p = twice();
            Due.text(p, "came 100;adds 60;minds " + minds[i] + ";");
            p.force(1);
            DUE.is("minds " + minds[i], p.bad(0), want[i]);
        }
        // a SELF is DONE once
        p = new PutOn();
        p.clock(1, 1);
        Due.text(p, "came 1;adds 1;minds 7*done;");
        p.force(1);
        DUE.is("minds of a SELF", p.bad(0), 7);
    }

    // a clock that is put on twice, beside one that goes on by itself and is right
    private static PutOn twice() {
        PutOn p = new PutOn();
        p.clock(11, 0);
        p.clock(30, 40);
        p.doer(0, 0, 0);
        p.doer(0, 0, 8);
        p.doer(0, 0, 8);
        return p;
    }

    private static void lateIsTold() {
        PutOn p = new PutOn();
        DUE.is("no clocks", p.late(0), PutOn.BAD);
        p.clock(0, 60);
        p.clock(10, 20);
        DUE.is("late(0)", p.late(0), 0);
        DUE.is("late(1)", p.late(1), 40);
        p.doer(0, 0, 3);
        DUE.is("late(0), put on", p.late(0), 60);
        DUE.is("late(1), less late if put on", p.late(1), 40);
        p.doer(0, 0, 2);
        DUE.is("late(1), put on twice", p.late(1), 80);
        for (int clock : new int[] {2, -1, 6, Integer.MAX_VALUE, Integer.MIN_VALUE}) {
            DUE.is("late(" + clock + ")", p.late(clock), PutOn.BAD);
        }
        Due.text(p, "came 100 - who*100;adds 60;minds 1;");
        p.force(1);
        // the second never comes
        DUE.is("late(1), of those that have a CHANCE", p.late(1), 20);
        DUE.is("late(0), of those that have a CHANCE", p.late(0), 60);
        Due.text(p, "came 1;adds 60;minds 1;");
        p.force(2);
        DUE.is("late(1), of those that have a CHANCE of 1", p.late(1), 80);
        p.force(0);
        p.set(3, 0, 100);
        p.set(3, 1, 60);
        // alike put on: none, or the first alone
        DUE.is("late(1), of those that fit", p.late(1), 40);
        p.set(3, 1, 120);
        DUE.is("late(1), of those others that fit", p.late(1), 80);
        p.set(3, 1, 121);
        DUE.is("late(1), none fits", p.late(1), -1);
        DUE.is("late(2), none such", p.late(2), PutOn.BAD);
    }

    private static void liveIsTrue() {
        PutOn p = new PutOn();
        p.clock(0, 0);
        p.clock(1, -10);
        p.clock(10, 30);
        p.doer(0, 0, 1);
        p.doer(0, 0, 2);
        p.set(3, 0, 5);
        p.set(3, 1, 6);
        DUE.is("live(1)", p.live(1), 1);
        DUE.is("OFF of the one put on", p.told(0, 0), 0);
        DUE.is("OFF of the SELF", p.told(1, 0), -10);
        DUE.is("OFF of the other", p.told(2, 0), -30);
        DUE.is("SAW", p.told(0, 3), -1);
        DUE.is("SAW of the SELF", p.told(1, 3), -1);
        DUE.is("none seen", p.count(2), 0);
        DUE.is("ROOM stays", p.told(2, 1), 1);
        DUE.is("SELF stays", p.told(1, 2), 1);
        DUE.is("DOERS stay", p.count(1), 2);
        // it is the new time now: what is right lives on as if nothing had been
        DUE.is("AT of it", p.at(0, 0, 0), 0);
        DUE.is("AT of it, put on once more", p.at(0, 1, 0), 60);
        DUE.is("live(3)", p.live(3), 1);
        DUE.is("OFF of the other, put on", p.told(2, 0), -30);

        // the bounds
        PutOn q = new PutOn();
        q.clock(0, 120);
        q.clock(10, -100);
        q.doer(0, 0, 1);
        q.doer(0, 0, 1);
        DUE.is("live(1)", q.live(1), 0);
        DUE.is("OFF of 120", q.told(0, 0), 120);
        DUE.is("OFF below", q.told(1, 0), -120);
        DUE.is("live(3)", q.live(3), 0);
        DUE.is("OFF above", q.told(0, 0), 120);
        DUE.is("OFF still below", q.told(1, 0), -120);
        DUE.is("live(0) of none", new PutOn().live(0), 0);
    }

    private static void liveRefuses() {
        PutOn p = new PutOn();
        p.clock(0, 7);
        p.set(3, 0, 8);
        p.doer(0, 0, 1);
        for (int world : new int[] {2, -1, 32, Integer.MAX_VALUE, Integer.MIN_VALUE}) {
            DUE.is("live(" + world + ")", p.live(world), PutOn.BAD);
        }
        DUE.is("OFF stays", p.told(0, 0), 7);
        DUE.is("SAW stays", p.told(0, 3), 8);
    }
}
