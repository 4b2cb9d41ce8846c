/** Promises 12 to 17: odds, time, sure, look, fewest, ask. */
public final class KnownTest {
    private static final Due DUE = new Due("KnownTest");

    public static void main(String[] args) {
        allThereCanBe();
        oddsAreTold();
        timeIsTold();
        timesTogether();
        lookSaysWhere();
        lookOfLikeOnes();
        fewestTell();
        askSaysWhom();
        DUE.end();
    }

    private static void odds(PutOn p, int clock, long above, long below) {
        DUE.is("odds(" + clock + ", 0)", p.odds(clock, 0), above);
        DUE.is("odds(" + clock + ", 1)", p.odds(clock, 1), below);
    }

    private static void sure(PutOn p, long above, long below) {
        DUE.is("sure(0)", p.sure(0), above);
        DUE.is("sure(1)", p.sure(1), below);
    }

    // two clocks in two rooms, a doer for each: they come with 20 and 70 of 100
    private static PutOn two() {
        PutOn p = new PutOn();
        p.clock(0, 0);
        p.clock(10, 0);
        p.doer(0, 0, 1);
        p.doer(0, 0, 2);
        Due.text(p, "came 20 + who*50;adds 60;minds 1;");
        p.force(1);
        return p;
    }

    // six clocks and five doers: in each ROOM one clock; each doer has a ROOM of his own; the last ROOM is nobody's
    private static void allThereCanBe() {
        PutOn p = new PutOn();
        for (int c = 0; c < 6; c++) {
            p.clock(10 * c, 0);
        }
        for (int d = 0; d < 5; d++) {
            p.doer(0, 0, 1 << d);
        }
        DUE.is("fewest", p.fewest(), 32);
        DUE.is("ask", p.ask(), 0);
        DUE.is("say", p.say(0), 31);
        odds(p, 4, 1, 2);
        odds(p, 5, 0, 1);
        DUE.is("bad(0)", p.bad(0), 7);
        DUE.is("bad(1)", p.bad(1), 2);
        DUE.is("late", p.late(5), 60);
        DUE.is("ALL", p.world(-1), 10000000000L);
        DUE.is("the last WORLD", p.world(31), 312500000);
        DUE.is("one behind the last", p.world(32), PutOn.NO);
        p.sheet(0, 0, 6);
        DUE.is("none RIGHT", p.tellsBack(0, 0), 1);
        DUE.is("none RIGHT, in which", p.tellsBack(0, 1), 0);
        DUE.is("film", p.film(0, 31), 6);
        DUE.is("RIGHT as in the last WORLD", p.tellsBack(0, 2), 31);
        p.set(3, 5, 60);
        DUE.is("time(0)", p.time(0), 120);
        DUE.is("time(1)", p.time(1), 1);
        sure(p, 1, 1);
        DUE.is("look", p.look(), 0);
        p.set(3, 0, 60);
        DUE.is("look, the first known", p.look(), 1);
        DUE.is("ask, the first known", p.ask(), 1);
        // as many doers less: what was worked out for the others is no more
        PutOn q = new PutOn();
        q.clock(0, 0);
        q.doer(0, 0, 1);
        q.image();
        q.doer(0, 0, 1);
        DUE.is("late by two", q.late(0), 60);
        q.doer(0, 0, 1);
        DUE.is("late by three", q.late(0), 120);
        q.back();
        DUE.is("late by one", q.late(0), 60);
        DUE.is("ALL by one", q.world(-1), 100);
        DUE.is("fewest by one", q.fewest(), -1);
        q.set(0, 0, 60);
        DUE.is("say by one", q.say(0), 0);
    }

    private static void oddsAreTold() {
        PutOn p = two();
        odds(p, 0, 1, 5);
        odds(p, 1, 7, 10);
        // that both say the same: CHANCE 30 * 80 that none came, 20 * 70 that both did
        p.set(3, 0, 5);
        p.set(3, 1, 5);
        odds(p, 0, 7, 19);
        odds(p, 1, 7, 19);
        p.clock(0, -60);
        odds(p, 2, 0, 1);
        p.clock(50, 60);
        odds(p, 3, 1, 1);
        int[][] no = {{4, 0}, {-1, 0}, {0, 2}, {0, -1}, {Integer.MAX_VALUE, 0}, {Integer.MIN_VALUE, 1}};
        for (int[] a : no) {
            DUE.is("odds(" + a[0] + ", " + a[1] + ")", p.odds(a[0], a[1]), PutOn.NO);
        }
        p.set(3, 1, 6);
        odds(p, 0, PutOn.NO, PutOn.NO);
    }

    private static void timeIsTold() {
        PutOn p = two();
        DUE.is("time(0), nothing seen", p.time(0), -1);
        DUE.is("time(1), nothing seen", p.time(1), 0);
        sure(p, PutOn.NO, PutOn.NO);
        p.set(3, 0, 600);
        // put on with 20 of 100: then it is 600, else 660
        DUE.is("time(0)", p.time(0), 660);
        DUE.is("time(1)", p.time(1), 2);
        sure(p, 4, 5);
        p.set(3, 1, 660);
        DUE.is("time(0), the second put on alone", p.time(0), 660);
        DUE.is("time(1), the second put on alone", p.time(1), 1);
        sure(p, 1, 1);
        p.set(3, 1, 661);
        DUE.is("time(0), none fits", p.time(0), -1);
        DUE.is("time(1), none fits", p.time(1), 0);
        sure(p, PutOn.NO, PutOn.NO);
        for (int what : new int[] {-1, 2, Integer.MAX_VALUE, Integer.MIN_VALUE}) {
            DUE.is("time(" + what + ")", p.time(what), PutOn.BAD);
        }
        p.set(3, 1, -1);
        for (int part : new int[] {-1, 2, Integer.MAX_VALUE, Integer.MIN_VALUE}) {
            DUE.is("sure(" + part + ")", p.sure(part), PutOn.NO);
        }
        // a WORLD of no CHANCE fits, but ALL is 0
        PutOn q = new PutOn();
        q.clock(0, 0);
        q.clock(10, 0);
        q.doer(0, 0, 1);
        Due.text(q, "came 0;adds 60;minds 1;");
        q.force(1);
        q.set(3, 0, 60);
        q.set(3, 1, 0);
        DUE.is("it fits", q.right(1, 1), 1);
        DUE.is("its TIME", q.right(1, 2), 60);
        DUE.is("time(0), ALL is 0", q.time(0), -1);
        DUE.is("time(1), ALL is 0", q.time(1), 0);
        sure(q, PutOn.NO, PutOn.NO);
        q.set(3, 1, -1);
        DUE.is("time(1), one of no CHANCE beside", q.time(1), 1);
        DUE.is("time(0), one of no CHANCE beside", q.time(0), 120);
    }

    private static void timesTogether() {
        // AT is 0, 60, 60, 120 by how many of two came: 50 of 100 each; TIMES 61, 1, 1, 1381
        PutOn p = new PutOn();
        p.clock(0, 0);
        p.doer(0, 0, 1);
        p.doer(0, 0, 1);
        p.set(3, 0, 1);
        DUE.is("two WORLDS' CHANCES together", p.time(0), 1);
        DUE.is("three TIMES", p.time(1), 3);
        sure(p, 1, 2);
        Due.text(p, "came 1;adds 60;minds 1;");
        p.force(1);
        DUE.is("a TIME of a CHANCE of 1", p.time(1), 3);
        sure(p, 9801, 10000);
        // of like ones the earliest: 0 and 1380 with a half each
        PutOn q = new PutOn();
        q.clock(0, 60);
        q.doer(0, 0, 1);
        q.set(3, 0, 0);
        DUE.is("like ones", q.time(0), 0);
        q.set(3, 0, 60);
        DUE.is("like ones, the earlier of the WORLD behind", q.time(0), 0);
        q.set(3, 0, 59);
        DUE.is("like ones around midnight", q.time(0), 59);
        q.set(3, 0, 61);
        DUE.is("like ones, later", q.time(0), 1);
        sure(q, 1, 2);
    }

    private static void lookSaysWhere() {
        PutOn p = two();
        DUE.is("nothing seen", p.look(), -1);
        p.clock(51, 0);
        DUE.is("nothing seen of three", p.look(), -1);
        p.set(3, 2, 100);
        // the SELF says 100 at TIME 100: the first says 40 with 80, the second with 30 of 100, or 100 with 70
        DUE.is("the less foreseen", p.look(), 1);
        p.set(3, 1, 100);
        DUE.is("the only one left", p.look(), 0);
        p.set(3, 0, 100);
        DUE.is("all seen", p.look(), -1);
        p.set(3, 1, -1);
        DUE.is("the other left", p.look(), 1);
        DUE.is("of none", new PutOn().look(), -1);
    }

    private static void lookOfLikeOnes() {
        PutOn p = new PutOn();
        p.clock(51, 0);
        p.clock(50, 0);
        p.clock(0, 0);
        p.clock(10, 0);
        p.doer(0, 0, 1);
        p.doer(0, 0, 2);
        p.set(3, 0, 0);
        DUE.is("of like ones the first", p.look(), 2);
        p.doer(0, 0, 1);
        // clock 2 is put on 0, 1, 2 times with 1, 2, 1 of 4: CHANCES of WORLDS go together, a half again
        DUE.is("a half of both", p.look(), 2);
        p.doer(0, 0, 1);
        // 1, 3, 3, 1 of 8
        DUE.is("less than a half", p.look(), 2);
        p.set(5, 3, 2);
        p.set(5, 2, 2);
        DUE.is("less than a half of the other", p.look(), 3);
        // none fits: the first
        p.set(3, 1, 1);
        DUE.is("none fits", p.look(), 2);
        // the first says the same as the one that was seen whatever was done; the second doesn't
        PutOn q = new PutOn();
        q.clock(0, 0);
        q.clock(0, 5);
        q.clock(10, 0);
        q.doer(0, 0, 1);
        q.set(3, 0, 0);
        DUE.is("one that stays is less foreseen than one alike put on", q.look(), 2);
        q.doer(0, 0, 3);
        DUE.is("still", q.look(), 2);
        q.set(5, 1, 2);
        q.set(5, 0, 2);
        DUE.is("one that is put on, all others alike", q.look(), 2);
    }

    private static void fewestTell() {
        PutOn p = new PutOn();
        DUE.is("no clocks", p.fewest(), -1);
        p.doer(0, 0, 1);
        DUE.is("no clocks, one doer", p.fewest(), -1);
        p.clock(0, 0);
        DUE.is("one clock, put on or not", p.fewest(), -1);
        p.clock(10, 0);
        DUE.is("one that stays", p.fewest(), 2);
        p.clock(11, 0);
        DUE.is("the first that stays", p.fewest(), 2);
        p.set(1, 1, 0);
        DUE.is("a SELF stays", p.fewest(), 4);
        p.set(2, 2, 0);
        p.set(5, 0, 3);
        DUE.is("all put on alike", p.fewest(), -1);
        // three rooms, a doer for each two: each is put on 0, 60 or 120
        PutOn q = new PutOn();
        q.clock(0, 0);
        q.clock(10, 0);
        q.clock(20, 0);
        q.doer(0, 0, 3);
        q.doer(0, 0, 4);
        // {0, 2}: both 60 more, if both came; {0}: if one did; {1} likewise; all three: likewise
        DUE.is("none of them", q.fewest(), -1);
        Due.text(q, "came 50;adds 60 - clock*30;minds 1;");
        q.force(1);
        // the third's doer adds 0; the others' 60 and 30
        DUE.is("the third is never put on", q.fewest(), 4);
        Due.text(q, "came 50;adds 70 - clock*30;minds 1;");
        q.force(2);
        // 70, 40, 10: two are never more by the same
        DUE.is("two clocks", q.fewest(), 3);
        Due.text(q, "came 50;adds 70 - (clock = 2)*30;minds 1;");
        q.force(3);
        // 70, 70, 40
        DUE.is("two clocks, not the first two", q.fewest(), 5);
        // WORLDS of no CHANCE don't count
        Due.text(q, "came 0;adds 60;minds 1;");
        q.force(4);
        DUE.is("of one WORLD alone", q.fewest(), 1);
        Due.text(q, "came who*50;adds 60;minds 1;");
        q.force(5);
        DUE.is("the first stays, as none comes there", q.fewest(), 1);
        fewestOfOneMore();
        // what was seen is no matter
        q.force(3);
        q.set(3, 0, 0);
        q.set(3, 1, 5);
        DUE.is("none fits", q.fewest(), 5);
    }

    private static void fewestOfOneMore() {
        PutOn p = new PutOn();
        p.clock(0, 100);
        p.clock(10, -7);
        p.doer(0, 0, 1);
        p.doer(0, 0, 2);
        Due.text(p, "came 50;adds 1 + who*2;minds 1;");
        p.force(1);
        DUE.is("more by 1, more by 3", p.fewest(), 3);
        Due.text(p, "came 1;adds 1;minds 1;");
        p.force(2);
        DUE.is("both, of a CHANCE of 1", p.fewest(), -1);
        Due.text(p, "came 50;adds 0-60;minds 1;");
        p.force(3);
        DUE.is("put back", p.fewest(), -1);
        Due.text(p, "came 100;adds 60;minds 1;");
        p.force(4);
        DUE.is("of the last WORLD alone", p.fewest(), 1);
        Due.text(p, "came 50;adds 60 - who*120;minds 1;");
        p.force(5);
        // the first alone against the second alone: both 60 more
        DUE.is("one on, one back", p.fewest(), -1);
        PutOn r = new PutOn();
        r.clock(0, 0);
        r.doer(0, 0, 1);
        Due.text(r, "came 99;adds 1;minds 1;");
        r.force(1);
        DUE.is("not put on, of a CHANCE of 1", r.fewest(), -1);
        Due.text(r, "came 1;adds 1;minds 1;");
        r.force(2);
        DUE.is("put on, of a CHANCE of 1", r.fewest(), -1);
        PutOn q = new PutOn();
        q.clock(0, 60);
        q.clock(10, 0);
        q.clock(20, -60);
        q.doer(0, 0, 3);
        q.doer(0, 0, 6);
        // more by the same are the first two, the last two, the first and the last: never all three
        DUE.is("all three", q.fewest(), 7);
        Due.text(q, "came 100 - who*50;adds 60;minds 1;");
        q.force(1);
        DUE.is("the first is put on always", q.fewest(), 1);
        Due.text(q, "came 50 + who*50;adds 60;minds 1;");
        q.force(2);
        DUE.is("the third is put on always", q.fewest(), 4);
    }

    private static void askSaysWhom() {
        PutOn p = new PutOn();
        DUE.is("no doers", p.ask(), -1);
        p.clock(0, 0);
        DUE.is("no doers, one clock", p.ask(), -1);
        p.doer(0, 0, 1);
        p.doer(0, 0, 1);
        p.doer(0, 0, 2);
        DUE.is("of like ones the first", p.ask(), 0);
        Due.text(p, "came 20 + who*20;adds 60;minds 1;");
        p.force(1);
        // 20, 40, 60: 80, 60, 60
        DUE.is("of like ones the first that is least", p.ask(), 1);
        Due.text(p, "came 60 - who*20;adds 60;minds 1;");
        p.force(2);
        // 60, 40, 20: 60, 60, 80
        DUE.is("of like ones the first, likelier than not", p.ask(), 0);
        Due.text(p, "came 30 + who*22;adds 60;minds 1;");
        p.force(3);
        // 30, 52, 74
        DUE.is("the second", p.ask(), 1);
        Due.text(p, "came 95 - who*22;adds 60;minds 1;");
        p.force(4);
        // 95, 73, 51
        DUE.is("the third", p.ask(), 2);
        // what fits: the clock was put on twice; then the first two are known
        p.clock(51, 0);
        p.set(3, 0, 160);
        p.set(3, 1, 100);
        p.force(3);
        DUE.is("the one who isn't known", p.ask(), 2);
        p.set(3, 0, 7);
        DUE.is("none fits", p.ask(), 0);
        // came with 50 and 51: the one is 50 at most, the other 51
        PutOn q = new PutOn();
        q.doer(0, 0, 1);
        q.doer(0, 0, 1);
        Due.text(q, "came 51 - who;adds 60;minds 1;");
        q.force(1);
        DUE.is("the less sure", q.ask(), 1);
        Due.text(q, "came 49 + who;adds 60;minds 1;");
        q.force(2);
        DUE.is("the less sure, less than half", q.ask(), 1);
    }
}
