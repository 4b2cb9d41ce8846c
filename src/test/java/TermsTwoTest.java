import java.util.Arrays;

/** The section "Terms", part 2, sentence by sentence: what each names as a bound, and where nothing is left. */
public final class TermsTwoTest {
    private static final Due DUE = new Due("TermsTwoTest");

    public static void main(String[] args) {
        worlds();
        whichFit();
        whereNothingIsLeft();
        timeAndSure();
        lookAndAsk();
        fewest();
        sayBadnessLate();
        told();
        drawn();
        image();
        DUE.end();
    }

    private static void says(String sentence, String... lines) {
        Script.says(DUE, sentence, lines);
    }

    private static void worlds() {
        says("A WORLD: which DOERS came (bits): of none", "world(0) = 1", "world(1) = NO", "world(-1) = 1",
            "world(-2) = NO", "right(0, 0) = 0", "right(1, 0) = -100000", "right(-1, 0) = -100000", "live(0) = 0",
            "live(1) = -2", "film(0, 0) = 0", "film(0, 1) = -2");
        says("A WORLD: which DOERS came (bits): of five", "clock(0, 0) = 0", "5 times doer(0, 0, 1) = 4",
            "world(31) = 312500000", "world(32) = NO", "at(0, 31, 0) = 300", "at(0, 32, 0) = -100000",
            "right(31, 1) = 1", "right(32, 1) = -100000", "film(0, 31) = 1", "film(0, 32) = -2", "live(32) = -2",
            "live(31) = 0", "told(0, 0) = 120");
        says("all CLOCKS that go on by themselves are 60 more, and DONE once, at first", "clock(1, 0) = 0",
            "clock(1, 120) = 1", "clock(1, -120) = 2", "clock(0, 60) = 3", "doer(0, 0, 1) = 0", "at(0, 0, 0) = 60",
            "at(0, 0, 1) = 1", "at(0, 0, 2) = 1", "at(1, 0, 0) = 180", "at(2, 0, 0) = -60", "at(3, 0, 1) = 0",
            "at(0, 1, 0) = 60", "at(0, 1, 1) = 1", "at(1, 1, 0) = 180", "at(3, 1, 0) = 120", "at(3, 1, 1) = 1");
        says("each DOER who came, by numbers: the trusted CLOCK put on ahead of him, or not yet", "clock(0, 0) = 0",
            "clock(10, 0) = 1", "doer(1, 0, 2) = 0", "doer(0, 0, 1) = 1", "doer(1, 0, 2) = 2", "at(1, 3, 0) = 0",
            "at(1, 3, 1) = 0", "at(1, 6, 0) = 60", "at(1, 4, 1) = 0", "at(1, 7, 1) = 1");
        says("in each ROOM of his WAY each CLOCK there that doesn't go on by itself", "clock(0, 0) = 0",
            "clock(50, 0) = 1", "clock(51, 0) = 2", "clock(50, 1) = 3", "clock(40, 0) = 4", "doer(0, 0, 32) = 0",
            "doer(0, 0, 33) = 1", "at(0, 1, 1) = 0", "at(1, 1, 1) = 1", "at(2, 1, 1) = 1", "at(3, 1, 1) = 1",
            "at(4, 1, 1) = 0", "at(0, 2, 1) = 1", "at(3, 3, 1) = 2", "at(2, 3, 1) = 1", "at(4, 3, 1) = 0");
        says("trusts the CLOCK of number NUMBER modulo how many there are", "clock(10, 0) = 0", "clock(10, 30) = 1",
            "clock(10, 60) = 2", "doer(1, 4, 2) = 0", "at(0, 1, 0) = 30", "at(1, 1, 0) = 30", "at(2, 1, 0) = 60",
            "clock(10, 120) = 3", "at(0, 1, 0) = 0", "at(0, 1, 1) = 0", "clock(10, 90) = 4", "at(0, 1, 0) = 90",
            "at(2, 1, 0) = 90", "at(3, 1, 0) = 120", "set(4, 0, 9) = 4", "at(0, 1, 0) = 90", "set(4, 0, 8) = 9",
            "at(0, 1, 0) = 120");
        says("RIGHT are CLOCKS that are AT 60 in the end", "clock(0, 59) = 0", "clock(0, 60) = 1", "clock(0, 61) = 2",
            "right(0, 0) = 2", "at(0, 0, 2) = 0", "at(1, 0, 2) = 1", "at(2, 0, 2) = 0", "doer(0, 0, 1) = 0",
            "right(1, 0) = 0", "set(0, 0, 0) = 59", "right(1, 0) = 1");
        says("CHANCE: came, if he came, else 100 less came, all multiplied", "doer(0, 0, 0) = 0", "doer(0, 0, 0) = 1",
            "text came 30+who*60;adds 1;minds 1; = 1", "text came who*100;adds 1;minds 1; = 2", "force(1) = 0",
            "world(0) = 700", "world(1) = 300", "world(2) = 6300", "world(3) = 2700", "world(-1) = 10000",
            "force(2) = 1", "world(0) = 0", "world(1) = 0", "world(2) = 10000", "world(3) = 0", "world(-1) = 10000");
    }

    private static void whichFit() {
        says("FITS, if SAW less AT is alike for all CLOCKS of which it isn't NONE", "clock(0, 0) = 0",
            "clock(0, -30) = 1", "clock(0, 7) = 2", "right(0, 1) = 1", "right(0, 2) = -1", "set(3, 0, 30) = -1",
            "right(0, 1) = 1", "right(0, 2) = 90", "set(3, 1, 0) = -1", "right(0, 1) = 1", "right(0, 2) = 90",
            "set(3, 1, 1) = 0", "right(0, 1) = 0", "right(0, 2) = -1", "set(3, 0, -1) = 30", "right(0, 1) = 1",
            "right(0, 2) = 91");
        says("FITS, modulo 1440 (0 at least)", "clock(0, 120) = 0", "clock(0, 0) = 1", "set(3, 0, 60) = -1",
            "set(3, 1, 1380) = -1", "right(0, 1) = 1", "right(0, 2) = 0", "set(3, 1, 1379) = 1380", "right(0, 1) = 0",
            "set(3, 0, 59) = 60", "right(0, 1) = 1", "right(0, 2) = 1439");
        // five put the first on to 720, the second back to -720: that is alike on a clock's face
        says("FITS, modulo 1440, a day apart", "clock(0, 120) = 0", "clock(0, -120) = 1", "5 times doer(0, 0, 1) = 4",
            "text came 50;adds 120-clock*240;minds 1; = 1", "force(1) = 0", "at(0, 31, 0) = 720", "at(1, 31, 0) = -720",
            "set(3, 0, 0) = -1", "set(3, 1, 0) = -1", "right(31, 1) = 1", "right(31, 2) = 780", "right(30, 1) = 0",
            "right(0, 1) = 0", "world(-1) = 312500000", "time(0) = 780", "time(1) = 1", "late(0) = 660",
            "late(1) = 780");
        says("its TIME is that, and 60, modulo 1440", "clock(0, 0) = 0", "set(3, 0, 0) = -1", "right(0, 2) = 60",
            "set(3, 0, 1379) = 0", "right(0, 2) = 1439", "set(3, 0, 1380) = 1379", "right(0, 2) = 0",
            "set(3, 0, 1439) = 1380", "right(0, 2) = 59", "set(0, 0, -120) = 0", "right(0, 2) = 179",
            "set(3, 0, 0) = 1439", "right(0, 2) = 180", "set(0, 0, 120) = -120", "right(0, 2) = 1380");
        says("(none, if all are NONE)", "right(0, 2) = -1", "clock(0, 0) = 0", "right(0, 1) = 1", "right(0, 2) = -1",
            "set(3, 0, 0) = -1", "right(0, 2) = 60", "set(3, 0, -1) = 0", "right(0, 1) = 1", "right(0, 2) = -1");
        says("ALL: CHANCES of all WORLDS that FIT, together", "clock(0, 0) = 0", "clock(10, 0) = 1",
            "doer(0, 0, 1) = 0", "text came 30;adds 60;minds 1; = 1", "force(1) = 0", "world(-1) = 100",
            "set(3, 0, 60) = -1", "set(3, 1, 0) = -1", "world(-1) = 30", "world(0) = 70", "set(3, 1, 60) = 0",
            "world(-1) = 70", "world(1) = 30", "set(3, 1, 61) = 60", "world(-1) = 0", "world(0) = 70");
    }

    // two CLOCKS that stay and say what can't be
    private static final String[] NONE_FITS = {"clock(0, 60) = 0", "clock(0, 0) = 1", "clock(0, 0) = 2",
        "doer(0, 0, 2) = 0", "doer(0, 0, 2) = 1", "sheet(0, 0, 3) = 1", "set(3, 0, 60) = -1", "set(3, 1, 1) = -1"};
    // the only WORLD that fits is of no CHANCE
    private static final String[] NO_CHANCE = {"clock(0, 0) = 0", "clock(10, 0) = 1", "clock(10, 0) = 2",
        "doer(0, 0, 1) = 0", "doer(0, 0, 0) = 1", "text came who*50;adds 60;minds 1; = 1", "force(1) = 0",
        "sheet(0, 0, 3) = 1", "set(3, 0, 60) = -1", "set(3, 1, 0) = -1"};

    private static String[] behind(String[] ahead, String... lines) {
        String[] all = Arrays.copyOf(ahead, ahead.length + lines.length);
        System.arraycopy(lines, 0, all, ahead.length, lines.length);
        return all;
    }

    private static void whereNothingIsLeft() {
        String[] nothing = {"world(-1) = 0", "odds(0, 0) = NO", "odds(0, 1) = NO", "odds(2, 0) = NO", "odds(2, 1) = NO",
            "time(0) = -1", "time(1) = 0", "sure(0) = NO", "sure(1) = NO", "look() = 2", "ask() = 0", "bad(0) = NO",
            "bad(1) = NO", "late(0) = -1", "late(2) = -1", "late(3) = -2", "time(2) = -2"};
        says("no WORLD FITS", behind(behind(NONE_FITS, nothing), "right(0, 1) = 0", "right(3, 1) = 0",
            "world(0) = 2500", "fewest() = 1", "say(0) = 0", "say(1) = 1", "tellsBack(0, 0) = 0",
            "chance(0, 1, 1) = 1"));
        says("the WORLD that FITS is of no CHANCE", behind(behind(NO_CHANCE, nothing), "right(1, 1) = 1",
            "right(1, 2) = 60", "right(0, 1) = 0", "world(1) = 0", "world(0) = 5000", "fewest() = 1", "say(0) = 1",
            "say(1) = 1", "tellsBack(0, 0) = 2"));
        says("and then it is as it was, once it is forgotten what was seen", behind(behind(NONE_FITS, nothing),
            "set(3, 1, -1) = 1", "world(-1) = 10000", "time(0) = 60", "sure(0) = 1", "late(0) = 0", "bad(0) = 2",
            "ask() = 0", "odds(0, 0) = 1", "odds(0, 1) = 1"));
    }

    private static void timeAndSure() {
        says("TIME: of most CHANCE (of WORLDS that FIT, together)", "clock(0, 0) = 0", "doer(0, 0, 1) = 0",
            "doer(0, 0, 1) = 1", "doer(0, 0, 1) = 2", "text came 40;adds 60;minds 1; = 1", "force(1) = 0",
            "set(3, 0, 1000) = -1", "right(0, 2) = 1060", "right(1, 2) = 1000", "right(7, 2) = 880", "time(0) = 1000",
            "time(1) = 4", "sure(0) = 54", "sure(1) = 125");
        says("TIME: of like ones the earliest", "clock(0, 60) = 0", "doer(0, 0, 1) = 0", "set(3, 0, 100) = -1",
            "right(0, 2) = 100", "right(1, 2) = 40", "time(0) = 40", "sure(0) = 1", "sure(1) = 2",
            "set(3, 0, 59) = 100", "right(0, 2) = 59", "right(1, 2) = 1439", "time(0) = 59", "set(3, 0, 0) = 59",
            "right(1, 2) = 1380", "time(0) = 0");
        says("TIME: 0 is one, too", "clock(0, 0) = 0", "set(3, 0, 1380) = -1", "time(0) = 0", "time(1) = 1",
            "sure(0) = 1", "sure(1) = 1");
        says("TIME: NONE: there is none", "time(0) = -1", "time(1) = 0", "sure(0) = NO", "sure(1) = NO",
            "clock(0, 0) = 0", "doer(0, 0, 1) = 0", "world(-1) = 100", "time(0) = -1", "time(1) = 0", "sure(0) = NO",
            "sure(1) = NO");
        says("how many unlike TIMES WORLDS that FIT, of a CHANCE above 0, have", "clock(0, 0) = 0", "doer(0, 0, 1) = 0",
            "doer(0, 0, 1) = 1", "set(3, 0, 0) = -1", "time(1) = 3", "text came who;adds 60;minds 1; = 1",
            "text came who*100;adds 60;minds 1; = 2", "text came 50;adds 0;minds 1; = 3", "force(1) = 0", "time(1) = 2",
            "force(2) = 1", "time(1) = 1", "force(3) = 2", "time(1) = 1", "sure(0) = 1", "sure(1) = 1");
        says("ODDS: from none to all", "clock(0, 0) = 0", "clock(0, 60) = 1", "clock(10, 0) = 2", "doer(0, 0, 2) = 0",
            "text came 98;adds 60;minds 1; = 1", "force(1) = 0", "odds(0, 0) = 0", "odds(0, 1) = 1", "odds(1, 0) = 1",
            "odds(1, 1) = 1", "odds(2, 0) = 49", "odds(2, 1) = 50", "odds(2, 2) = NO", "odds(3, 0) = NO");
    }

    // all but the first doer came surely: he makes it that each puts clock 1 on, not back
    private static final String[] A_DAY_APART = {"clock(0, 0) = 0", "clock(10, 0) = 1", "doer(5, 9, 6) = 0",
        "doer(5, 9, 2) = 1", "3 times doer(0, 0, 2) = 4",
        "text came 100-(who=0)*50;adds (done=who)*240-120;minds 1; = 1", "force(1) = 0"};

    private static void lookAndAsk() {
        says("LOOK: NONE: there is no such CLOCK, or SAW is NONE of all; of like ones the first", "look() = -1",
            "clock(0, 0) = 0", "clock(0, 0) = 1", "clock(0, 0) = 2", "look() = -1", "set(3, 0, 5) = -1", "look() = 1",
            "set(3, 1, 5) = -1", "look() = 2", "set(3, 2, 5) = -1", "look() = -1", "set(3, 0, -1) = 5", "look() = 0",
            "set(3, 2, -1) = 5", "look() = 0", "set(3, 1, -1) = 5", "look() = -1");
        says("LOOK: that of which the greatest CHANCE is least", "clock(0, 0) = 0", "clock(10, 0) = 1",
            "clock(20, 0) = 2", "doer(0, 0, 2) = 0", "doer(0, 0, 4) = 1", "text came 51-who;adds 60;minds 1; = 1",
            "text came 50-who;adds 60;minds 1; = 2", "text came 49+who*2;adds 60;minds 1; = 3", "set(3, 0, 0) = -1",
            "look() = 1", "force(1) = 0", "look() = 2", "force(2) = 1", "look() = 1", "force(3) = 2", "look() = 1");
        // clock 1 is AT 840, if all came, and AT -600, if all but the first: so it says the same, a day later
        says("LOOK: it would say the same, modulo 1440", behind(A_DAY_APART, "clock(20, 0) = 2", "set(3, 0, 0) = -1",
            "at(1, 31, 0) = 840", "at(1, 30, 0) = -600", "at(2, 31, 0) = 240", "at(2, 30, 0) = 0", "look() = 2",
            "set(1, 2, 0) = 2", "look() = 1"));
        says("ASK: of like ones the first; NONE", "ask() = -1", "clock(0, 0) = 0", "ask() = -1", "doer(0, 0, 1) = 0",
            "ask() = 0", "doer(0, 0, 1) = 1", "ask() = 0", "text came 50+who;adds 60;minds 1; = 1",
            "text came 51-who;adds 60;minds 1; = 2", "text came 49+who*2;adds 60;minds 1; = 3", "force(1) = 0",
            "ask() = 0", "force(2) = 1", "ask() = 1", "force(3) = 2", "ask() = 0");
        says("ASK: CHANCES of WORLDS that FIT", "clock(0, 0) = 0", "clock(10, 0) = 1", "doer(0, 0, 1) = 0",
            "doer(0, 0, 0) = 1", "text came 50-who*10;adds 60;minds 1; = 1", "force(1) = 0", "ask() = 0",
            "set(3, 0, 60) = -1", "set(3, 1, 0) = -1", "ask() = 1", "set(3, 1, 5) = 0", "ask() = 0");
    }

    private static void fewest() {
        says("FEWEST: NONE: no CLOCKS, or none that tell", "fewest() = -1", "doer(0, 0, 1) = 0", "fewest() = -1",
            "clock(0, 0) = 0", "fewest() = -1", "set(5, 0, 0) = 1", "fewest() = 1");
        says("FEWEST: (both of a CHANCE above 0)", "clock(0, 0) = 0", "doer(0, 0, 1) = 0",
            "text came 0;adds 60;minds 1; = 1", "text came 100;adds 60;minds 1; = 2",
            "text came 1;adds 60;minds 1; = 3", "text came 99;adds 60;minds 1; = 4", "force(1) = 0", "fewest() = 1",
            "force(2) = 1", "fewest() = 1", "force(3) = 2", "fewest() = -1", "force(4) = 3", "fewest() = -1");
        says("FEWEST: more by one and the same number above 0", "clock(0, 0) = 0", "clock(0, 0) = 1",
            "doer(0, 0, 1) = 0", "text came 50;adds 0;minds 1; = 1", "text came 50;adds 1;minds 1; = 2",
            "text came 50;adds -1;minds 1; = 3", "text came 50;adds 1+clock;minds 1; = 4",
            "text came 50;adds 1-clock*2;minds 1; = 5", "force(1) = 0", "fewest() = 1", "force(2) = 1", "fewest() = -1",
            "force(3) = 2", "fewest() = -1", "force(4) = 3", "fewest() = 3", "force(5) = 4", "fewest() = 3");
        says("FEWEST: a day more is more, though it says the same", behind(A_DAY_APART, "fewest() = 1",
            "set(1, 0, 1) = 0", "fewest() = -1"));
        says("FEWEST: that of fewest; of like ones the least as bits", "clock(0, 0) = 0", "clock(10, 0) = 1",
            "clock(20, 0) = 2", "doer(0, 0, 7) = 0", "text came 50;adds 1+clock;minds 1; = 1",
            "text came 50;adds 1+(clock=1);minds 1; = 2", "text came 50;adds 1+(clock=2);minds 1; = 3", "force(1) = 0",
            "fewest() = 3", "force(2) = 1", "fewest() = 3", "force(3) = 2", "fewest() = 5", "set(2, 2, 1) = 0",
            "fewest() = 4", "set(2, 1, 1) = 0", "fewest() = 2");
    }

    private static void sayBadnessLate() {
        says("SAY: the WORLD in which most are RIGHT, though fewer DOERS come in others", "clock(0, 0) = 0",
            "clock(10, 0) = 1", "clock(20, 0) = 2", "doer(0, 0, 1) = 0", "doer(0, 0, 2) = 1", "doer(0, 0, 0) = 2",
            "say(0) = 3", "say(1) = 2", "set(5, 2, 4) = 0", "say(0) = 7", "say(1) = 3");
        says("SAY: of like ones that of fewest DOERS, though its bits are more", "clock(0, 0) = 0", "clock(10, 0) = 1",
            "doer(0, 0, 1) = 0", "doer(0, 0, 2) = 1", "doer(0, 0, 3) = 2", "say(0) = 4", "say(1) = 2");
        says("SAY: of like ones the least as bits", "clock(0, 0) = 0", "3 times doer(0, 0, 1) = 2", "say(0) = 1",
            "set(5, 0, 0) = 1", "say(0) = 2", "set(5, 1, 2) = 1", "say(0) = 4", "set(5, 2, 2) = 1", "say(0) = 0",
            "say(1) = 0");
        says("SAY of no CLOCKS, of all RIGHT", "say(0) = 0", "say(1) = 0", "5 times doer(0, 0, 63) = 4", "say(0) = 0",
            "6 times clock(1, 0) = 5", "say(0) = 0", "say(1) = 6");
        says("BADNESS: of none, of all", "bad(0) = 0", "bad(1) = 1", "6 times clock(0, 0) = 5", "bad(0) = 6",
            "bad(1) = 1", "5 times doer(0, 0, 0) = 4", "text came 50;adds 60;minds 99; = 1", "force(1) = 0",
            "bad(0) = 594", "bad(1) = 1");
        says("BADNESS: CLOCKS that aren't RIGHT in it", "clock(0, 60) = 0", "clock(10, 0) = 1", "bad(0) = 1",
            "doer(0, 0, 2) = 0", "bad(0) = 1", "bad(1) = 2", "set(3, 0, 60) = -1", "set(3, 1, 0) = -1", "bad(0) = 1",
            "bad(1) = 1", "set(3, 1, 60) = 0", "bad(0) = 0", "bad(1) = 1");
        says("LATE: how far AT is from 60 at most, on either side", "clock(0, 60) = 0", "clock(0, -120) = 1",
            "clock(1, 120) = 2", "clock(0, 59) = 3", "clock(0, 61) = 4", "late(0) = 0", "late(1) = 180",
            "late(2) = 120", "late(3) = 1", "late(4) = 1", "doer(0, 0, 1) = 0", "late(0) = 60", "late(1) = 180",
            "late(2) = 120", "late(3) = 59", "late(4) = 61");
        says("LATE: in any WORLD that FITS, of a CHANCE above 0", "clock(0, 0) = 0", "clock(10, 0) = 1",
            "doer(0, 0, 1) = 0", "text came 100;adds 60;minds 1; = 1", "text came 99;adds 60;minds 1; = 2",
            "late(0) = 60", "force(1) = 0", "late(0) = 0", "force(2) = 1", "late(0) = 60", "set(3, 0, 60) = -1",
            "set(3, 1, 0) = -1", "late(0) = 0", "late(1) = 60");
    }

    private static void told() {
        says("TOLD: 1, if it is RIGHT, 0, if not (another number: it isn't known)", "clock(0, 0) = 0",
            "doer(0, 0, 1) = 0", "doer(0, 0, 0) = 1", "sheet(0, 2, 1) = 1", "tellsBack(0, 0) = 2",
            "tellsBack(0, 1) = 0", "tellsBack(0, 2) = 0", "cell(0, 0, 1) = 1", "tellsBack(0, 0) = 2",
            "tellsBack(0, 1) = 1", "tellsBack(0, 2) = 1", "cell(0, 0, 2) = 1", "tellsBack(0, 0) = 4",
            "tellsBack(0, 1) = 0", "cell(0, 0, -1) = 1", "tellsBack(0, 0) = 4", "cell(0, 0, BIG) = 1",
            "tellsBack(0, 0) = 4", "cell(0, 0, SMALL) = 1", "tellsBack(0, 0) = 4");
        says("TOLD: of a CHANCE above 0", "clock(0, 0) = 0", "doer(0, 0, 1) = 0", "doer(0, 0, 1) = 1",
            "text came 100-who*100;adds 60;minds 1; = 1", "text came 100-who*99;adds 60;minds 1; = 2",
            "sheet(0, 0, 1) = 1", "cell(0, 0, 7) = 1", "tellsBack(0, 0) = 4", "force(1) = 0", "tellsBack(0, 0) = 1",
            "tellsBack(0, 1) = 1", "tellsBack(0, 2) = 1", "force(2) = 1", "tellsBack(0, 0) = 2", "tellsBack(0, 1) = 1",
            "tellsBack(0, 2) = 1", "cell(0, 0, 0) = 1", "tellsBack(0, 0) = 1", "tellsBack(0, 1) = 3",
            "tellsBack(0, 2) = 3", "force(1) = 2", "tellsBack(0, 0) = 0", "tellsBack(0, 1) = -1",
            "tellsBack(0, 2) = 0");
        says("TOLD: of most CHANCE; of like ones the least as bits", "clock(0, 0) = 0", "doer(0, 0, 1) = 0",
            "doer(0, 0, 1) = 1", "text came 49+who*2;adds 60;minds 1; = 1", "text came 51-who*2;adds 60;minds 1; = 2",
            "sheet(0, 1, 1) = 1", "cell(0, 0, 1) = 1", "tellsBack(0, 1) = 1", "force(1) = 0", "tellsBack(0, 1) = 2",
            "force(2) = 1", "tellsBack(0, 1) = 1", "cell(0, 0, 9) = 1", "tellsBack(0, 1) = 1", "force(1) = 2",
            "tellsBack(0, 1) = 2");
        says("TOLD: whether a WORLD FITS is not asked", "clock(0, 0) = 0", "clock(0, 0) = 1", "set(3, 0, 0) = -1",
            "set(3, 1, 1) = -1", "world(-1) = 0", "sheet(0, 0, 2) = 1", "tellsBack(0, 0) = 1", "tellsBack(0, 1) = 0");
        says("TOLD of no CLOCKS", "sheet(0, 2, 0) = 1", "tellsBack(0, 0) = 1", "tellsBack(0, 1) = 0",
            "tellsBack(0, 2) = 0", "doer(0, 0, 0) = 0", "tellsBack(0, 0) = 2", "sheet(0, 2, 1) = 1",
            "tellsBack(0, 0) = -2");
    }

    private static void drawn() {
        // by 0 the two are 24 and 19, by -1 28 and 14, by the greatest int 24 and 18, by the least 28 and 15
        says("DRAWN: he came, if (z >>> 9) % 100 is below came", "clock(0, 0) = 0", "clock(10, 0) = 1",
            "doer(0, 0, 1) = 0", "doer(0, 0, 2) = 1", "text came 24-who*4;adds 60;minds 1; = 1",
            "text came 25-who*6;adds 60;minds 1; = 2", "text came 28-who*13;adds 60;minds 1; = 3",
            "text came 29-who*15;adds 60;minds 1; = 4", "drawn(0) = 3", "force(1) = 0", "drawn(0) = 2", "force(2) = 1",
            "drawn(0) = 1", "drawn(BIG) = 3", "drawn(SMALL) = 2", "force(3) = 2", "drawn(-1) = 2", "drawn(SMALL) = 0",
            "drawn(BIG) = 1", "force(4) = 3", "drawn(-1) = 1", "drawn(SMALL) = 1");
        says("DRAWN: of came 0 none, of came 100 each; of no CLOCKS, of no DOERS", "drawn(5) = 0", "doer(0, 0, 1) = 0",
            "drawn(5) = 0", "clock(0, 0) = 0", "clock(1, 0) = 1", "text came 0;adds 60;minds 1; = 1",
            "text came 100;adds 60;minds 1; = 2", "force(1) = 0", "drawn(0) = 2", "drawn(-2) = 2", "force(2) = 1",
            "drawn(0) = 3", "drawn(-2) = 3");
        // by 0, 1, 2, 3 it is 24, 27, 30, 33
        says("IN n seeds (1 .. 20), SEED and each 1 more (an int)", "clock(0, 0) = 0", "doer(0, 0, 1) = 0",
            "text came 28;adds 60;minds 1; = 1", "force(1) = 0", "chance(0, 1, 0) = 1", "chance(0, 1, 1) = 1",
            "chance(0, 2, 0) = 1", "chance(0, 2, 1) = 1", "chance(0, 3, 0) = 2", "chance(0, 3, 1) = 3",
            "chance(0, 4, 0) = 1", "chance(0, 4, 1) = 2", "chance(2, 2, 0) = 0", "chance(2, 2, 1) = 1",
            "chance(BIG, 1, 0) = 1", "chance(BIG, 2, 0) = 1", "chance(BIG, 2, 1) = 2", "chance(-1, 2, 0) = 1",
            "chance(-1, 2, 1) = 2", "chance(0, 0, 0) = NO", "chance(0, 21, 0) = NO", "chance(0, 20, 0) = 1",
            "chance(0, 20, 1) = 10");
        says("IN n seeds: these those by which all are", "chance(3, 20, 0) = 1", "chance(3, 20, 1) = 1",
            "clock(1, 0) = 0", "chance(3, 20, 0) = 1", "clock(0, 60) = 1", "chance(3, 20, 0) = 1", "clock(0, 0) = 2",
            "chance(3, 20, 0) = 0", "chance(3, 20, 1) = 1");
    }

    private static void image() {
        says("AN IMAGE keeps OFF, ROOMS, SELF, SAW of CLOCKS", "clock(10, 5) = 0", "set(3, 0, 7) = -1", "image() = 1",
            "set(0, 0, 6) = 5", "set(1, 0, 2) = 1", "set(2, 0, 1) = 0", "set(3, 0, 8) = 7", "back() = 1",
            "told(0, 0) = 5", "told(0, 1) = 1", "told(0, 2) = 0", "told(0, 3) = 7", "live(0) = 0", "back() = 1",
            "told(0, 0) = 5", "told(0, 3) = 7");
        says("NUMBERS, WAYS, THE RULE", "doer(3, 4, 5) = 0", "text came 1;adds 1;minds 1; = 1", "force(1) = 0",
            "image() = 0", "set(4, 0, 9) = 4", "set(5, 0, 6) = 5", "force(0) = 1", "told(0, 7) = 50", "back() = 0",
            "told(0, 4) = 4", "told(0, 5) = 5", "told(0, 6) = 3", "count(5) = 1", "told(0, 7) = 1");
        says("CLOCKS, DOERS that came since go", "clock(0, 1) = 0", "doer(0, 1, 0) = 0", "image() = 1",
            "clock(0, 2) = 1", "set(3, 1, 9) = -1", "doer(5, 2, 0) = 1", "count(2) = 1", "back() = 1", "count(0) = 1",
            "count(1) = 1", "count(2) = 0", "told(1, 0) = -1000", "told(1, 4) = -1000", "world(1) = 50",
            "world(2) = NO", "clock(0, 3) = 1", "told(1, 3) = -1", "doer(1, 3, 0) = 1", "told(1, 6) = 1");
        says("all that there can be goes, and comes again", "image() = 0", "6 times clock(0, 0) = 5",
            "5 times doer(0, 0, 0) = 4", "clock(0, 0) = -4", "doer(0, 0, 0) = -4", "back() = 0", "count(0) = 0",
            "count(1) = 0", "6 times clock(0, 0) = 5", "5 times doer(0, 0, 0) = 4", "image() = 6", "clock(0, 0) = -4",
            "back() = 6", "count(1) = 5");
        says("it doesn't keep TEXTS, THE TAPE, SHEETS", "image() = 0", "text came 1;adds 1;minds 1; = 1",
            "feed(99) = 1", "sheet(0, 0, 1) = 1", "back() = 0", "count(3) = 2", "count(4) = 1", "cell(0, 0, 0) = 1",
            "force(1) = 0", "sheet(0, -1, 0) = 1", "back() = 0", "cell(0, 0, 0) = -11", "count(5) = 0");
        says("THE IMAGE is the last that was kept, and stays when one is back", "back() = -3", "clock(0, 1) = 0",
            "back() = -3", "count(0) = 1", "image() = 1", "set(0, 0, 2) = 1", "image() = 1", "set(0, 0, 3) = 2",
            "back() = 1", "told(0, 0) = 2", "set(0, 0, 4) = 2", "back() = 1", "told(0, 0) = 2");
    }
}
