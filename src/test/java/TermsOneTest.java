/** The section "Terms", part 1, sentence by sentence: what each names as a bound, on both of its sides. */
public final class TermsOneTest {
    private static final Due DUE = new Due("TermsOneTest");

    public static void main(String[] args) {
        clocksAndTheirBounds();
        doersAndTheirBounds();
        whatRefusesFirst();
        whoDoes();
        whatHeAdds();
        tapeAndTokens();
        grammar();
        faults();
        depth();
        namesAndBounds();
        wrapping();
        DUE.end();
    }

    private static void says(String sentence, String... lines) {
        Script.says(DUE, sentence, lines);
    }

    private static void clocksAndTheirBounds() {
        says("CLOCKS (6 at most, numbered from 0)", "told(0, 0) = -1000", "clock(0, 1) = 0", "clock(0, 2) = 1",
            "clock(0, 3) = 2", "clock(0, 4) = 3", "clock(0, 5) = 4", "count(0) = 5", "clock(0, 6) = 5",
            "clock(0, 7) = -4", "count(0) = 6", "told(0, 0) = 1", "told(5, 0) = 6", "told(6, 0) = -1000",
            "told(-1, 0) = -1000", "at(5, 0, 0) = 6", "at(6, 0, 0) = -100000");
        says("are in a ROOM (0 .. 5)", "clock(-10, 0) = -2", "clock(60, 0) = -2", "clock(61, 0) = -2",
            "count(0) = 0", "clock(0, 0) = 0", "clock(50, 0) = 1", "told(0, 1) = 0", "told(1, 1) = 5",
            "set(1, 0, 5) = 0", "set(1, 0, 6) = -1000", "told(0, 1) = 5", "set(1, 0, 0) = 5", "set(1, 0, -1) = -1000",
            "told(0, 1) = 0");
        says("are OFF (-120 .. 120 minutes)", "clock(0, -121) = -2", "clock(0, 121) = -2", "clock(0, SMALL) = -2",
            "clock(0, BIG) = -2", "count(0) = 0", "clock(0, -120) = 0", "clock(0, 120) = 1", "told(0, 0) = -120",
            "told(1, 0) = 120", "set(0, 0, 120) = -120", "set(0, 0, 121) = -1000", "told(0, 0) = 120",
            "set(0, 0, -120) = 120", "set(0, 0, -121) = -1000", "told(0, 0) = -120");
        says("go on by themselves (SELF: 1) or not (0)", "clock(-1, 0) = -2", "clock(2, 0) = -2", "clock(9, 0) = -2",
            "clock(52, 0) = -2", "clock(12, 0) = -2", "count(0) = 0", "clock(0, 0) = 0", "clock(51, 0) = 1",
            "told(0, 2) = 0", "told(1, 2) = 1", "set(2, 0, 1) = 0", "set(2, 0, 2) = -1000", "told(0, 2) = 1",
            "set(2, 0, 0) = 1", "set(2, 0, -1) = -1000", "told(0, 2) = 0");
        says("SAW: what it said (0 .. 1439 minutes), or NONE, as at first", "clock(0, 0) = 0", "told(0, 3) = -1",
            "count(2) = 0", "set(3, 0, -2) = -1000", "set(3, 0, 1440) = -1000", "told(0, 3) = -1", "count(2) = 0",
            "set(3, 0, 0) = -1", "count(2) = 1", "set(3, 0, 1439) = 0", "set(3, 0, 1440) = -1000",
            "set(3, 0, -2) = -1000", "told(0, 3) = 1439", "set(3, 0, -1) = 1439", "told(0, 3) = -1", "count(2) = 0");
    }

    private static void doersAndTheirBounds() {
        says("DOERS (5 at most, numbered from 0)", "told(0, 4) = -1000", "doer(0, 1, 0) = 0", "doer(0, 2, 0) = 1",
            "doer(0, 3, 0) = 2", "doer(0, 4, 0) = 3", "count(1) = 4", "doer(0, 5, 0) = 4", "doer(0, 6, 0) = -4",
            "count(1) = 5", "told(0, 4) = 1", "told(4, 4) = 5", "told(5, 4) = -1000", "told(-1, 4) = -1000");
        says("have a KIND: 0 .. 5", "doer(-1, 0, 0) = -2", "doer(6, 0, 0) = -2", "doer(SMALL, 0, 0) = -2",
            "doer(BIG, 0, 0) = -2", "count(1) = 0", "doer(0, 0, 0) = 0", "doer(5, 0, 0) = 1", "told(0, 6) = 0",
            "told(1, 6) = 5");
        says("a NUMBER (0 .. 9)", "doer(0, -1, 0) = -2", "doer(0, 10, 0) = -2", "count(1) = 0", "doer(0, 0, 0) = 0",
            "doer(0, 9, 0) = 1", "told(0, 4) = 0", "told(1, 4) = 9", "set(4, 0, 9) = 0", "set(4, 0, 10) = -1000",
            "told(0, 4) = 9", "set(4, 0, 0) = 9", "set(4, 0, -1) = -1000", "told(0, 4) = 0");
        says("a WAY: ROOMS (bits 0 .. 5)", "doer(0, 0, -1) = -2", "doer(0, 0, 64) = -2", "count(1) = 0",
            "doer(0, 0, 0) = 0", "doer(0, 0, 63) = 1", "told(0, 5) = 0", "told(1, 5) = 63", "set(5, 0, 63) = 0",
            "set(5, 0, 64) = -1000", "told(0, 5) = 63", "set(5, 0, 0) = 63", "set(5, 0, -1) = -1000", "told(0, 5) = 0");
        says("bits 0 .. 5: to ROOM 5 by 32, to none by 0", "clock(50, 0) = 0", "clock(0, 0) = 1", "doer(0, 0, 32) = 0",
            "doer(0, 0, 1) = 1", "doer(0, 0, 0) = 2", "at(0, 1, 0) = 60", "at(1, 1, 0) = 0", "at(0, 2, 0) = 0",
            "at(1, 2, 0) = 60", "at(0, 4, 0) = 0", "at(1, 4, 0) = 0");
    }

    private static void whatRefusesFirst() {
        says("clock: BAD; FULL", "6 times clock(0, 0) = 5", "clock(0, 0) = -4", "clock(2, 0) = -2", "clock(60, 0) = -2",
            "clock(-1, 0) = -2", "clock(0, 121) = -2", "clock(0, -121) = -2", "clock(2, 121) = -2", "count(0) = 6");
        says("doer: BAD; FULL", "5 times doer(0, 0, 0) = 4", "doer(0, 0, 0) = -4", "doer(6, 0, 0) = -2",
            "doer(-1, 0, 0) = -2", "doer(0, 10, 0) = -2", "doer(0, -1, 0) = -2", "doer(0, 0, 64) = -2",
            "doer(0, 0, -1) = -2", "doer(6, 10, 64) = -2", "count(1) = 5");
        says("feed: BAD; FULL", "160 times feed(32) = 160", "feed(0) = -4", "feed(255) = -4", "feed(-1) = -2",
            "feed(256) = -2", "count(4) = 160");
        says("tellsBack: BAD: SHEET, what; -11; BAD: its size", "tellsBack(4, 0) = -2", "tellsBack(4, 3) = -2",
            "tellsBack(0, 3) = -2", "tellsBack(0, -1) = -2", "tellsBack(0, 0) = -11", "clock(0, 0) = 0",
            "tellsBack(0, 2) = -11", "sheet(0, 0, 2) = 1", "tellsBack(0, 0) = -2", "sheet(0, 0, 0) = 1",
            "tellsBack(0, 0) = -2", "sheet(0, 0, 1) = 1", "tellsBack(0, 3) = -2", "tellsBack(0, 0) = 1");
        says("sheet: BAD: no such SHEET, sort; n above 40; -14", "sheet(4, 0, -1) = -2", "sheet(-1, 3, -1) = -2",
            "sheet(0, 3, -1) = -2", "sheet(0, -2, -1) = -2", "sheet(0, 0, 41) = -2", "sheet(0, 0, -1) = -14",
            "cell(0, 0, 0) = -11");
        says("cell: BAD: no such SHEET; -11; -12", "cell(4, -1, 0) = -2", "cell(-1, 0, 0) = -2", "cell(0, -1, 0) = -11",
            "cell(0, 40, 0) = -11", "sheet(0, 0, 40) = 1", "cell(0, -1, 0) = -12", "cell(0, 40, 0) = -12",
            "cell(0, 39, 0) = 1");
        says("copy: BAD: no such SHEET; -11; -13; -12", "sheet(0, 0, 2) = 1", "sheet(1, 1, 2) = 1",
            "copy(4, -1, 2, -1, -1) = -2", "copy(2, -1, 4, -1, -1) = -2", "copy(-1, 0, 0, 0, 1) = -2",
            "copy(0, 0, -1, 0, 1) = -2", "copy(2, -1, 0, -1, -1) = -11", "copy(0, 9, 2, 9, 9) = -11",
            "copy(2, 0, 3, 0, 0) = -11", "copy(0, -1, 1, -1, -1) = -13", "copy(1, 0, 0, 0, 0) = -13",
            "copy(0, 0, 0, 0, -1) = -12", "copy(0, 0, 0, 1, 2) = -12", "copy(0, 0, 0, 0, 2) = 2");
        says("clocks: BAD: no such SHEET, sort, n; -13; -11; -12", "sheet(0, 1, 2) = 1", "clocks(4, 0, 9, 1) = -2",
            "clocks(0, 3, 9, 1) = -2", "clocks(0, 0, 9, 7) = -2", "clocks(0, 0, 9, -1) = -2", "clocks(1, 3, 9, 1) = -2",
            "clocks(1, 0, 9, 7) = -2", "clocks(0, 0, 9, 1) = -13", "clocks(0, 2, -1, 0) = -13",
            "clocks(1, 0, 9, 1) = -11", "clocks(1, 0, 0, 0) = -11", "clocks(0, 1, 1, 1) = -12", "count(0) = 0");
        says("taken: BAD: k; -11: no such DOER; -13", "taken(0, 6) = -2", "taken(-1, -1) = -2", "taken(0, 5) = -11",
            "doer(0, 3, 0) = 0", "taken(0, 6) = -2", "taken(1, 5) = -11", "taken(0, 5) = -13", "taken(0, 0) = 3");
        says("text: FULL (ahead of all)", "text came 1;adds 1;minds 1; = 1", "text came 1;adds 1;minds 1; = 2",
            "text came 1;adds 1;minds 1; = 3", "text came 1;adds 1;minds 1; = 4", "text came 1;adds 1;minds 1; = 5",
            "text() = -4", "text ? = -4", "count(4) = 1", "count(3) = 6");
    }

    private static void whoDoes() {
        // clock 1 is trusted: it is so much ahead of clock 0
        says("TRUSTING: if b is 30 or more", "clock(0, 0) = 0", "clock(10, 29) = 1", "doer(1, 1, 1) = 0",
            "at(0, 1, 1) = 0", "at(0, 1, 0) = 0", "set(0, 1, 30) = 29", "at(0, 1, 1) = 1", "at(0, 1, 0) = 30",
            "set(0, 1, 31) = 30", "at(0, 1, 0) = 31", "set(0, 1, -30) = 31", "at(0, 1, 1) = 0", "at(0, 1, 0) = 0",
            "set(0, 1, 0) = -30", "at(0, 1, 1) = 0");
        says("SHY: if a is no more than NUMBER by 4 (cut)", "clock(0, 0) = 0", "doer(0, 0, 0) = 0", "doer(0, 0, 0) = 1",
            "doer(0, 0, 0) = 2", "doer(2, 3, 1) = 3", "at(0, 8, 1) = 1", "at(0, 9, 1) = 0", "set(4, 3, 4) = 3",
            "at(0, 9, 1) = 1", "at(0, 11, 1) = 0", "set(4, 3, 7) = 4", "at(0, 10, 1) = 1", "at(0, 11, 1) = 0",
            "set(4, 3, 8) = 7", "at(0, 11, 1) = 1", "at(0, 15, 1) = 0", "set(4, 3, 9) = 8", "at(0, 13, 1) = 1",
            "at(0, 15, 1) = 0");
        says("MARKING: as a TRUSTING, but not, if d is above 0", "clock(0, 0) = 0", "clock(10, 120) = 1",
            "doer(0, 0, 1) = 0", "doer(3, 1, 1) = 1", "at(0, 2, 1) = 1", "at(0, 3, 1) = 1", "at(0, 3, 0) = 60",
            "set(0, 1, 29) = 120", "at(0, 2, 1) = 0", "set(0, 1, 30) = 29", "at(0, 2, 1) = 1", "at(0, 2, 0) = 30");
        says("HALVING: as a SHY, but not, if c and NUMBER, together, are odd", "clock(0, 0) = 0", "clock(0, 0) = 1",
            "doer(0, 0, 0) = 0", "doer(4, 0, 1) = 1", "at(0, 2, 1) = 1", "at(1, 2, 1) = 0", "at(0, 3, 1) = 0",
            "set(4, 1, 1) = 0", "at(0, 2, 1) = 0", "at(1, 2, 1) = 1", "set(4, 1, 4) = 1", "at(0, 3, 1) = 1",
            "at(1, 3, 1) = 0", "set(4, 1, 9) = 4", "at(0, 3, 1) = 0", "at(1, 3, 1) = 1");
        says("ZEALOUS: if d is 1 at most", "clock(0, 0) = 0", "doer(0, 0, 1) = 0", "doer(0, 0, 1) = 1",
            "doer(5, 0, 1) = 2", "at(0, 4, 1) = 1", "at(0, 5, 1) = 2", "at(0, 6, 1) = 2", "at(0, 7, 1) = 2",
            "at(0, 7, 0) = 120");
        says("a DOERS having come ahead: those who didn't do anything, too; none who come behind",
            "clock(0, 0) = 0", "doer(1, 0, 1) = 0", "doer(2, 0, 1) = 1", "doer(0, 0, 0) = 2", "at(0, 2, 1) = 1",
            "at(0, 3, 1) = 0", "at(0, 6, 1) = 1");
    }

    private static void whatHeAdds() {
        // a SELF of OFF 120 is AT 180, 300 ahead of a CLOCK of OFF -120
        says("ADDS, TRUSTING: b, however much", "clock(0, -120) = 0", "clock(1, 120) = 1", "doer(1, 1, 1) = 0",
            "at(0, 1, 0) = 180");
        says("ADDS, MARKING: as a TRUSTING, but 60 at most", "clock(0, 0) = 0", "clock(10, 59) = 1",
            "doer(3, 1, 1) = 0", "at(0, 1, 0) = 59", "set(0, 1, 60) = 59", "at(0, 1, 0) = 60", "set(0, 1, 61) = 60",
            "at(0, 1, 0) = 60", "set(0, 1, 120) = 61", "at(0, 1, 0) = 60");
        says("ADDS, HALVING: half (cut) of a SHY's", "clock(0, 0) = 0", "doer(4, 0, 1) = 0",
            "text came 1;adds 7;minds 1; = 1", "text came 1;adds -7;minds 1; = 2", "text came 1;adds 1;minds 1; = 3",
            "text came 1;adds -1;minds 1; = 4", "text came 1;adds 121;minds 1; = 5", "at(0, 1, 0) = 30",
            "force(1) = 0", "at(0, 1, 0) = 3", "force(2) = 1", "at(0, 1, 0) = -3", "force(3) = 2", "at(0, 1, 0) = 0",
            "at(0, 1, 1) = 1", "force(4) = 3", "at(0, 1, 0) = 0", "force(5) = 4", "at(0, 1, 0) = 60");
        says("ADDS, ZEALOUS: twice a DOER's, if NUMBER is above 4, else as a DOER", "clock(0, 0) = 0",
            "doer(5, 4, 1) = 0", "at(0, 1, 0) = 60", "set(4, 0, 5) = 4", "at(0, 1, 0) = 120", "set(4, 0, 9) = 5",
            "at(0, 1, 0) = 120", "set(4, 0, 0) = 9", "at(0, 1, 0) = 60", "text came 1;adds 121;minds 1; = 1",
            "text came 1;adds -121;minds 1; = 2", "force(1) = 0", "at(0, 1, 0) = 120", "set(4, 0, 5) = 0",
            "at(0, 1, 0) = 240", "force(2) = 1", "at(0, 1, 0) = -240");
        says("ADDS, DOER and SHY: v", "clock(0, 0) = 0", "doer(0, 9, 1) = 0", "doer(2, 9, 1) = 1", "at(0, 1, 0) = 60",
            "at(0, 2, 0) = 60", "at(0, 3, 0) = 120");
        says("0 minutes added, and it was DONE once more", "clock(0, 7) = 0", "doer(0, 0, 1) = 0",
            "text came 1;adds 0;minds 1; = 1", "force(1) = 0", "at(0, 1, 0) = 7", "at(0, 1, 1) = 1");
    }

    private static final String BLANKS = " ".repeat(138);

    private static void tapeAndTokens() {
        says("THE TAPE (160 bytes at most)", "159 times feed(32) = 159", "feed(32) = 160", "feed(32) = -4",
            "count(4) = 160", "text() = -260", "count(4) = 0", "text came 1;adds 1;minds 1;" + BLANKS + " = 1",
            "feed(32) = 1");
        says("a byte that is refused as THE TAPE is full is not in the TEXT", "text " + "came 1;adds 1;minds 1;"
            + BLANKS.substring(1) + " = 1", "160 times feed(32) = 160", "feed(63) = -4", "text() = -260");
        says("WORDS, each as long as can be", "text came rooms;adds 1;minds 1; = 1", "text came room s; = -110",
            "text came roomss; = -105", "text came notwho; = -105", "text came not who;adds 1;minds 1; = 2",
            "text came whoor 1; = -105", "text cameadds 1; = -100", "text came 1;adds1;minds1; = 3");
        says("NUMBERS, as many digits as stand there, 4 at most", "text came 9999;adds 0000;minds 0001; = 1",
            "text came 12345; = -105", "text came 00001; = -105", "text came 1 2345; = -107",
            "text came 1234 5; = -110", "text came 1+12345; = -107", "text came 1a; = -106", "text came 1who; = -106");
        says("NUMBERS of up to 4 digits are what they say", "doer(0, 0, 0) = 0",
            "text came 1001-0999;adds 1;minds 1; = 1", "force(1) = 0", "told(0, 7) = 2");
        says("SIGNS ( ) ; + - * < =", "text came (1)+1-1*1<1;adds 1=1;minds 1; = 1", "text came 1>0; = -106",
            "text came 1,0; = -106", "text came 1/1; = -106", "text came 1:1; = -106", "text came 1!; = -106",
            "text came 1&1; = -106", "text came [1]; = -105");
        says("blanks (32, 10) may stand between", "text \n came\n \n1 ; adds\n(\n1 ) ;minds 1;\n\n = 1",
            "text came\t1; = -104", "text came\r1; = -104", "text came 1;adds 1;minds 1;\u000b = -122",
            "text came 1\u00a0; = -106", "text \u0000came 1; = -100", "text came wh o; = -105", "text came 1 0; = -107",
            "text ca me 1; = -100");
        says("TOKENS begin and end where their letters do", "text came who`; = -108", "text came who{; = -108",
            "text came whoA; = -108", "text came 1/; = -106", "text came 1:; = -106", "text came `who; = -105",
            "text came {who; = -105", "text came /1; = -105", "text came :1; = -105", "text came who\u00ff; = -108");
    }

    private static void grammar() {
        says("TEXT: came E ; adds E ; minds E ;", "text came 1;adds 2;minds 3; = 1",
            "text adds 1;came 2;minds 3; = -100", "text came 1;minds 2;adds 3; = -107",
            "text came 1 adds 2;minds 3; = -107", "text ;came 1; = -100", "text came 1;;adds 1; = -107",
            "text came 1;adds 2;minds 3;; = -122", "text came 1;adds 2;minds 3;1 = -122", "text came ;adds 1; = -105",
            "text came 1;adds ;minds 1; = -112");
        says("E: AND { or AND }; AND: NOT { and NOT }", "text came or 1; = -105", "text came 1 or; = -109",
            "text came and 1; = -105", "text came 1 and; = -110", "text came 1 or and 1; = -110",
            "text came 1 and or 1; = -111", "text came 1 or 1 and 1 or 1;adds 1;minds 1; = 1");
        says("NOT: not NOT, or SUM, perhaps < or = and a SUM", "text came not; = -108", "text came 1 not 1; = -107",
            "text came 1<2<3; = -108", "text came 1<2=3; = -108", "text came 1=2<3; = -108", "text came 1<; = -107",
            "text came <1; = -105", "text came 1<not 1; = -107", "text came not 1<2;adds 1;minds 1; = 1",
            "text came (1<2)<3;adds 1=(2=3);minds 1; = 2");
        says("SUM: TERM { + or - TERM }; TERM: ONE { * ONE }", "text came 1+; = -107", "text came 1-; = -107",
            "text came 1*; = -107", "text came +1; = -105", "text came *1; = -105", "text came 1++1; = -107",
            "text came 1-+1; = -107", "text came 1+*1; = -107", "text came 1+not 1; = -107",
            "text came 1*not 1; = -107", "text came 1-1-1+1*1*1;adds 1;minds 1; = 1");
        says("ONE: a NUMBER, a NAME, - ONE, ( E )", "text came -; = -106", "text came (; = -106",
            "text came (); = -106", "text came (1; = -107", "text came 1); = -106", "text came -not 1; = -106",
            "text came -+1; = -106", "text came came; = -105", "text came minds; = -105", "text came adds; = -105",
            "text came 1 1; = -107", "text came -(not 1 or 1);adds --1;minds 1*-1; = 1");
        says("1 or 0: of or, and, not, <, = (what is not 0 is true)", "doer(0, 0, 0) = 0",
            "text came 7 or 0;adds 1;minds 1; = 1", "text came (7 and 9)*10+(-1 and 2);adds 1;minds 1; = 2",
            "text came (not 7)*10+(not not 7);adds 1;minds 1; = 3",
            "text came (0 or 0)+(2<2)*2+(1<2)*4+(2=2)*8+(2=3)*16;adds 1;minds 1; = 4",
            "text came (0 and 5)+(5 and 0)*2+(0 or 5)*4+(not 0)*8;adds 1;minds 1; = 5", "force(1) = 0",
            "told(0, 7) = 1", "force(2) = 1", "told(0, 7) = 11", "force(3) = 2", "told(0, 7) = 1", "force(4) = 3",
            "told(0, 7) = 12", "force(5) = 4", "told(0, 7) = 12");
    }

    private static void faults() {
        says("FAULT: the text's size, if it ends too early", "text() = -100", "feed(32) = 1", "text() = -101",
            "feed(10) = 1", "text() = -101", "text came = -104", "text came 1 = -106", "text came 1; = -107",
            "text came 1;adds 1;minds 1 = -121", "text came 1;adds 1;minds 1 \n = -123", "text came (1+ = -108",
            "text came not  = -109");
        says("the first TOKEN that can't stand, not a later one", "text came 1 1 ? = -107", "text came ? 12345 = -105",
            "text came ) ? = -105", "text came 12345 12345 = -105", "text ? ? = -100", "text came 1;adds 1 1 = -114",
            "text came 1;adds 1;minds 1 1 = -122");
        says("a WORD that is neither KEY nor NAME", "text cam 1; = -100", "text camel 1; = -100",
            "text came whos; = -105", "text came wh; = -105", "text came an; = -105", "text came ors; = -105",
            "text came clocks; = -105", "text came o; = -105", "text came x; = -105", "text came 1 x = -107",
            "text came 1 andd 1; = -107");
        says("by a FAULT, too, THE TAPE is empty then; no TEXT comes, THE RULE stays", "text came ? = -105",
            "count(4) = 0", "count(3) = 1", "count(5) = 0", "force(1) = -2", "text came 1;adds 1;minds 1; = 1");
    }

    private static void depth() {
        says("a ( while 5 of these are open", "text came (((((1)))));adds 1;minds 1; = 1",
            "text came ((((((1)))))); = -110", "text came ((((( = -110", "text came (((((( = -110");
        says("a not while 5 of these are open", "text came not not not not not 1;adds 1;minds 1; = 1",
            "text came not not not not not not 1; = -125");
        says("a - ahead of a ONE while 5 of these are open", "text came -----1;adds 1;minds 1; = 1",
            "text came ------1; = -110", "text came 1-1-1-1-1-1-1;adds 1;minds 1; = 2",
            "text came 1------1;adds 1;minds 1; = 3", "text came 1-------1; = -112");
        says("of these, together", "text came not(-(-1));adds 1;minds 1; = 1", "text came not(-(-(1))); = -112",
            "text came not(-(--1)); = -112", "text came -(not(not -1)); = -115",
            "text came -(not(not 1));adds 1;minds 1; = 2");
        says("a ( till its )", "text came (((((1)))))+(((((1)))));adds 1;minds 1; = 1",
            "text came ((((1)+(1)+(1))))*((1));adds 1;minds 1; = 2", "text came ((((1)+(((1)))))); = -114",
            "text came ((((1)+(1))));adds (((((1)))));minds 1; = 3");
        says("a - till its ONE ends", "text came -----1-----1-----1;adds 1;minds 1; = 1",
            "text came ----1*----1+-----(1); = -122", "text came ----1*----1+----(1);adds 1;minds 1; = 2",
            "text came -(1)+(((((1)))));adds 1;minds 1; = 3", "text came -(1+((((1))))); = -112");
        says("a not till its NOT ends", "text came not not not not not 1<1 and(((((1)))));adds 1;minds 1; = 1",
            "text came not not not not not 1<(1); = -127", "text came not not not not not(1); = -124",
            "text came not(1)or not not not not not 1;adds 1;minds 1; = 2",
            "text came not not not not not 1=-1; = -127");
    }

    private static void namesAndBounds() {
        says("came (who, rooms; the others 0)", "clock(30, 9) = 0", "doer(0, 0, 63) = 0", "doer(0, 0, 0) = 1",
            "doer(0, 0, 5) = 2", "text came 10+who*20+rooms;adds 1;minds 1; = 1",
            "text came 10+clock+room+off+done;adds 1;minds 1; = 2", "force(1) = 0", "told(0, 7) = 16",
            "told(1, 7) = 30", "told(2, 7) = 52", "force(2) = 1", "told(0, 7) = 10", "told(2, 7) = 10");
        says("how likely he came (0 .. 100, else the bound)", "doer(0, 0, 0) = 0", "text came 0;adds 1;minds 1; = 1",
            "text came -1;adds 1;minds 1; = 2", "text came 1;adds 1;minds 1; = 3", "text came 100;adds 1;minds 1; = 4",
            "text came 101;adds 1;minds 1; = 5", "force(1) = 0", "told(0, 7) = 0", "world(1) = 0", "force(2) = 1",
            "told(0, 7) = 0", "world(0) = 100", "force(3) = 2", "told(0, 7) = 1", "world(1) = 1", "force(4) = 3",
            "told(0, 7) = 100", "world(0) = 0", "force(5) = 4", "told(0, 7) = 100", "world(1) = 100");
        says("adds (all)", "clock(0, 0) = 0", "clock(21, 0) = 1", "clock(20, 5) = 2", "doer(0, 0, 0) = 0",
            "doer(0, 0, 4) = 1", "doer(0, 0, 5) = 2", "text came 1;adds clock*50+who*10+rooms;minds 1; = 1",
            "text came 1;adds room*40+off;minds 1; = 2", "text came 1;adds 1+done*7;minds 1; = 3", "force(1) = 0",
            "at(2, 2, 0) = 116", "at(2, 4, 0) = 125", "at(0, 4, 0) = 22", "force(2) = 1", "at(2, 2, 0) = 90",
            "at(2, 6, 0) = 175", "force(3) = 2", "at(2, 2, 0) = 6", "at(2, 6, 0) = 14");
        says("by how much he puts it on (-120 .. 120, else the bound)", "clock(0, 0) = 0", "doer(0, 0, 1) = 0",
            "text came 1;adds 120;minds 1; = 1", "text came 1;adds 121;minds 1; = 2",
            "text came 1;adds -120;minds 1; = 3", "text came 1;adds -121;minds 1; = 4",
            "text came 1;adds 119;minds 1; = 5", "force(1) = 0", "at(0, 1, 0) = 120", "force(2) = 1",
            "at(0, 1, 0) = 120", "force(3) = 2", "at(0, 1, 0) = -120", "force(4) = 3", "at(0, 1, 0) = -120",
            "force(5) = 4", "at(0, 1, 0) = 119");
        says("minds (clock, room, off, done as in the end; who, rooms 0)", "clock(0, 60) = 0", "clock(30, 40) = 1",
            "doer(0, 0, 0) = 0", "doer(0, 0, 8) = 1", "doer(0, 0, 8) = 2",
            "text came 100;adds 60;minds 10+clock*7+room; = 1", "text came 100;adds 60;minds off; = 2",
            "text came 100;adds 60;minds 10+done; = 3", "text came 100;adds 60;minds 10+who; = 4",
            "text came 100;adds 60;minds 10+rooms; = 5", "force(1) = 0", "bad(0) = 20", "force(2) = 1", "bad(0) = 40",
            "force(3) = 2", "bad(0) = 12", "force(4) = 3", "bad(0) = 10", "force(5) = 4", "bad(0) = 10");
        says("how bad it is if it is wrong (0 .. 99, else the bound)", "clock(0, 0) = 0",
            "text came 1;adds 1;minds 99; = 1", "text came 1;adds 1;minds 100; = 2", "text came 1;adds 1;minds 0; = 3",
            "text came 1;adds 1;minds -1; = 4", "text came 1;adds 1;minds 98; = 5", "force(1) = 0", "bad(0) = 99",
            "force(2) = 1", "bad(0) = 99", "force(3) = 2", "bad(0) = 0", "bad(1) = 1", "force(4) = 3", "bad(0) = 0",
            "bad(1) = 1", "force(5) = 4", "bad(0) = 98");
        says("6 TEXTS at most, TEXT 0 with them", "count(3) = 1", "text came 1;adds 1;minds 1; = 1",
            "text came 2;adds 1;minds 1; = 2", "text came 3;adds 1;minds 1; = 3", "text came 4;adds 1;minds 1; = 4",
            "count(3) = 5", "force(5) = -2", "text came 5;adds 1;minds 1; = 5", "count(3) = 6", "text came 6; = -4",
            "count(3) = 6", "force(6) = -2", "doer(0, 0, 0) = 0", "force(5) = 0", "told(0, 7) = 5");
        says("TEXT 0, at first THE RULE, is: came 50 ; adds 60 ; minds 1 ;", "count(5) = 0", "clock(0, 0) = 0",
            "clock(10, 0) = 1", "doer(0, 0, 1) = 0", "told(0, 7) = 50", "at(0, 1, 0) = 60", "bad(0) = 3", "bad(1) = 2");
    }

    private static void wrapping() {
        // 9999*9999 is 99980001: 21 times that is an int, 22 times it isn't, 43 times goes around once
        says("An E is an int (32 bits, wrapping)", "clock(0, 0) = 0", "doer(0, 0, 1) = 0",
            "text came 9999*9999*21;adds 9999*9999*22;minds 1; = 1",
            "text came 9999*9999*22;adds 9999*9999*21+9999*9999;minds 1; = 2",
            "text came 9999*9999*43;adds -9999*9999*21-9999*9999;minds 1; = 3",
            "text came 4096*4096*256+7;adds 4096*4096*128;minds 1; = 4", "force(1) = 0", "told(0, 7) = 100",
            "at(0, 1, 0) = -120", "force(2) = 1", "told(0, 7) = 0", "at(0, 1, 0) = -120", "force(3) = 2",
            "told(0, 7) = 100", "at(0, 1, 0) = 120", "force(4) = 3", "told(0, 7) = 7", "at(0, 1, 0) = -120");
        // the least int is 4096*4096*128, what is 1 less than it the greatest
        says("wrapping: the least and the greatest int", "doer(0, 0, 0) = 0",
            "text came 3+(4096*4096*128<1)*4+(1<4096*4096*128)*8;adds 1;minds 1; = 1",
            "text came 3+(-(4096*4096*128)=4096*4096*128)*4;adds 1;minds 1; = 2",
            "text came 3+(0<4096*4096*128-1)*4+(4096*4096*128 and 1)*8;adds 1;minds 1; = 3",
            "text came (4096*4096*128-1+1<0)*5;adds 1;minds 1; = 4", "force(1) = 0", "told(0, 7) = 7", "force(2) = 1",
            "told(0, 7) = 7", "force(3) = 2", "told(0, 7) = 15", "force(4) = 3", "told(0, 7) = 5");
    }
}
