/** Promises 6 to 8: feed, text, force; with the grammar of a TEXT and the places of its FAULTS. */
public final class TextsTest {
    private static final Due DUE = new Due("TextsTest");

    public static void main(String[] args) {
        tapeFills();
        textComes();
        faultsAreTold();
        depthIsLimited();
        textsFill();
        valuesAreReckoned();
        boundsHold();
        forceRules();
        DUE.end();
    }

    private static void tapeFills() {
        PutOn p = new PutOn();
        for (int letter : new int[] {-1, 256, Integer.MIN_VALUE, Integer.MAX_VALUE}) {
            DUE.is("feed(" + letter + ")", p.feed(letter), PutOn.BAD);
        }
        DUE.is("nothing came", p.count(4), 0);
        DUE.is("feed(0)", p.feed(0), 1);
        DUE.is("feed(255)", p.feed(255), 2);
        for (int i = 3; i <= 160; i++) {
            DUE.is("feed, the " + i + "th", p.feed(32), i);
        }
        DUE.is("the 161st", p.feed(32), PutOn.FULL);
        DUE.is("BAD comes ahead of FULL", p.feed(256), PutOn.BAD);
        DUE.is("160 stay", p.count(4), 160);
        DUE.is("its first byte begins none", p.text(), -100);
        DUE.is("the tape is empty", p.count(4), 0);
    }

    private static void textComes() {
        PutOn p = new PutOn();
        DUE.is("in one", Due.text(p, "came 1;adds 2;minds 3;"), 1);
        DUE.is("the tape is empty", p.count(4), 0);
        DUE.is("two texts", p.count(3), 2);
        DUE.is("the rule stays", p.count(5), 0);
        DUE.is("with blanks", Due.text(p, " \n came\n1 ;adds  who\n; minds(3);\n "), 2);
        DUE.is("words and numbers side by side", Due.text(p, "came10and20;adds 7or 8;minds not0;"), 3);
        StringBuilder full = new StringBuilder("came 1;adds 2;minds 3;");
        while (full.length() < 160) {
            full.append(' ');
        }
        DUE.is("160 bytes", Due.text(p, full.toString()), 4);
    }

    private static void fault(String text, int place) {
        PutOn p = new PutOn();
        DUE.is("text \"" + text + "\"", Due.text(p, text), -100 - place);
        DUE.is("the tape is empty after \"" + text + "\"", p.count(4), 0);
        DUE.is("no text came of \"" + text + "\"", p.count(3), 1);
    }

    private static void faultsAreTold() {
        fault("", 0);
        fault("   ", 3);
        fault("came", 4);
        fault("came ", 5);
        fault("came 1", 6);
        fault("came 1;", 7);
        fault("came 1;adds 2;minds 3", 21);
        fault("came 1;adds 2;minds 3;;", 22);
        fault("came 1;adds 2;minds 3; x", 23);
        fault("came 1;adds 2;minds 3; 4", 23);
        fault("came 1;adds 2;minds 3;came", 22);
        fault("adds 1;came 2;minds 3;", 0);
        fault("came 1;minds 2;adds 3;", 7);
        fault("came;", 4);
        fault("cam 1;", 0);
        fault("camex 1;", 0);
        fault("camez 1;", 0);
        fault("dame 1;", 0);
        fault("came mho;", 5);
        fault("came1x;", 5);
        fault("came x;", 5);
        fault("came Who;", 5);
        fault("came wHo;", 5);
        fault("came whO;", 5);
        fault("came who#;", 8);
        fault("came $;", 5);
        fault("came 1$;", 6);
        fault("came 1\t;", 6);
        fault("came 1" + (char) 160 + ";", 6);
        fault("came 1,2;", 6);
        fault("came 12345;", 5);
        fault("came 1 12345;", 7);
        fault("came 1 1;", 7);
        fault("came who room;", 9);
        fault("came clockroom;", 5);
        fault("came 1 +;", 8);
        fault("came 1 + + 1;", 9);
        fault("came 1 - - + 1;", 11);
        fault("came * 1;", 5);
        fault("came 1 * * 1;", 9);
        fault("came < 1;", 5);
        fault("came 1 < 2 < 3;", 11);
        fault("came 1 = 2 = 3;", 11);
        fault("came 1 < = 2;", 9);
        fault("came or 1;", 5);
        fault("came 1 or;", 9);
        fault("came 1 or or 2;", 10);
        fault("came 1 and and 2;", 11);
        fault("came 1 and;", 10);
        fault("came 1 <;", 8);
        fault("came 1 =;", 8);
        fault("came 1 *;", 8);
        fault("came 1 -;", 8);
        fault("came -;", 6);
        fault("came (1 or);", 10);
        fault("came (1 and);", 11);
        fault("came 1 not 2;", 7);
        fault("came 1 + not 2;", 9);
        fault("came - not 2;", 7);
        fault("came 1 < not 2;", 9);
        fault("came not;", 8);
        fault("came (1;", 7);
        fault("came 1);", 6);
        fault("came ();", 6);
        fault("came (1 2);", 8);
        fault("came adds;", 5);
        fault("came 1 adds 2;", 7);
        fault("came 1;adds (2;minds 3;", 14);
        // the first FAULT is told, not a later one
        fault("came 1 1 $", 7);
        fault("came $ 12345", 5);
    }

    private static void stands(String e) {
        PutOn p = new PutOn();
        DUE.is("text of " + e, Due.text(p, "came " + e + ";adds 1;minds 1;"), 1);
    }

    private static void depthIsLimited() {
        stands("(((((1)))))");
        fault("came ((((((1))))));adds 1;minds 1;", 10);
        stands("-----1");
        fault("came ------1;adds 1;minds 1;", 10);
        stands("not not not not not 1");
        fault("came not not not not not not 1;adds 1;minds 1;", 25);
        stands("-(-(-1))");
        fault("came -(-(-(1)));adds 1;minds 1;", 10);
        stands("not (not (- 1))");
        fault("came not (not (- - 1));adds 1;minds 1;", 17);
        // each ends: a ( at its ), a - with its ONE, a not with its NOT
        stands("((((1))))+((((1))))*(((((1)))))");
        stands("----1 - ----1 * -----1");
        stands("not not not not not 1 or not not not not not 1 and (((((1)))))");
        // a not is open over the whole of both SUMS
        fault("came not not not not not 1 < (1);adds 1;minds 1;", 29);
        fault("came not not not not 1 + ((1));adds 1;minds 1;", 26);
        fault("came not not not not not -1;adds 1;minds 1;", 25);
        stands("not not not not 1 < (1)");
        stands("not not not not not 1 < 1 or (1)");
        stands("1 - 1 - 1 - 1 - 1 - 1 - 1 - 1");
        // a sixth that can't stand there anyway is no other place
        fault("came (((((1(", 11);
        fault("came (((((", 10);
    }

    private static void textsFill() {
        PutOn p = new PutOn();
        DUE.is("a fault takes no room", Due.text(p, "came"), -104);
        for (int i = 1; i <= 5; i++) {
            DUE.is("text " + i, Due.text(p, "came " + i + ";adds 1;minds 1;"), i);
        }
        DUE.is("six texts", p.count(3), 6);
        DUE.is("a seventh", Due.text(p, "came 7;adds 1;minds 1;"), PutOn.FULL);
        DUE.is("its tape stays", p.count(4), 22);
        DUE.is("FULL comes ahead of a FAULT", p.feed('$'), 23);
        DUE.is("FULL again", p.text(), PutOn.FULL);
        DUE.is("the tape stays again", p.count(4), 23);
        p.doer(0, 0, 0);
        for (int i = 1; i <= 5; i++) {
            p.force(i);
            DUE.is("came of text " + i, p.told(0, 7), i);
        }
        // long ones, one behind the other: each has all the room that a tape has (512 calls feed three)
        PutOn q = new PutOn();
        q.clock(0, 0);
        q.doer(0, 0, 1);
        for (int i = 1; i <= 3; i++) {
            StringBuilder text = new StringBuilder("came " + i + ";adds " + i);
            for (int k = 0; k < 62; k++) {
                text.append("+1");
            }
            DUE.is("long text " + i, Due.text(q, text.append(";minds " + i + ";").toString()), i);
        }
        for (int i = 3; i >= 0; i--) {
            q.force(i);
            DUE.is("came of long text " + i, q.told(0, 7), i == 0 ? 50 : i);
            DUE.is("adds of long text " + i, q.at(0, 1, 0), i == 0 ? 60 : 62 + i);
            DUE.is("minds of long text " + i, q.bad(0) * (i == 0 ? 2 : 1), i == 0 ? 2 : i);
        }
    }

    // what an E is worth, as what adds tells of clock 1 (ROOM 2, OFF 5) to doer 1 (rooms 3)
    private static void value(String e, int want) {
        PutOn p = new PutOn();
        p.clock(0, 0);
        p.clock(20, 5);
        p.doer(0, 0, 0);
        p.doer(0, 0, 7);
        DUE.is("text of " + e, Due.text(p, "came 50;adds " + e + ";minds 1;"), 1);
        p.force(1);
        DUE.is("adds " + e, p.at(1, 2, 0) - 5, want);
    }

    private static void valuesAreReckoned() {
        value("7", 7);
        value("007", 7);
        value("0000", 0);
        value("clock", 1);
        value("who", 1);
        value("room", 2);
        value("off", 5);
        value("done", 0);
        value("rooms", 3);
        value("1 + 2 * 3", 7);
        value("(1 + 2) * 3", 9);
        value("10 - 2 - 3", 5);
        value("10 - (2 - 3)", 11);
        value("10 - 2 + 3", 11);
        value("10 + 2 - 3", 9);
        value("10 - 2 * 3 + 4", 8);
        value("1 or 0 or 0", 1);
        value("1 and 1 and 0", 0);
        value("2 * 3 * 4", 24);
        value("-2 * -3", 6);
        value("--4", 4);
        value("- 2 + 3", 1);
        value("2 * - 3", -6);
        value("2 - -3", 5);
        value("1 < 2", 1);
        value("2 < 2", 0);
        value("3 < 2", 0);
        value("2 = 2", 1);
        value("2 = 3", 0);
        value("1 + 1 = 2", 1);
        value("1 + (1 = 2)", 1);
        value("not 0", 1);
        value("not 5", 0);
        value("not not 5", 1);
        value("not 1 = 2", 1);
        value("not 0 + 5", 0);
        value("5 and 7", 1);
        value("5 and 0", 0);
        value("0 and 5", 0);
        value("0 or 9", 1);
        value("9 or 0", 1);
        value("0 or 0", 0);
        value("1 or 0 and 0", 1);
        value("(1 or 0) and 0", 0);
        value("0 and 0 or 1", 1);
        value("1 or 1 and 0", 1);
        value("not 1 or 1", 1);
        value("not (1 or 1)", 0);
        value("(0 - 1) and (0 - 1)", 1);
        value("-1 < 0", 1);
        value("(2 < 3) * 40 + (3 < 2) * 7", 40);
        // 9999 * 9999 is 99980001, 22 times that is above the greatest int, 43 times that is above 2^32
        value("9999*9999*22 < 0", 1);
        value("0 < 9999*9999*43", 1);
        value("9999*9999*43 = 417*9999 + 3164", 1);
        value("9999*9999*9999 = 9999*9999*9999 + 0", 1);
        // 2^16 * 2^16 is 0, 2^15 * 2^16 is the least int
        value("(4096*16)*(4096*16) + 9", 9);
        value("(4096*8)*(4096*16) < 0", 1);
        value("(4096*8)*(4096*16) - 1 < 0", 0);
        value("-((4096*8)*(4096*16)) = (4096*8)*(4096*16)", 1);
    }

    private static void boundsHold() {
        value("120", 120);
        value("121", 120);
        value("-120", -120);
        value("-121", -120);
        value("9999*9999*22", -120);
        value("9999*9999*43", 120);
        PutOn p = new PutOn();
        p.clock(0, 0);
        p.doer(0, 0, 0);
        Due.text(p, "came 0;adds 0;minds 99;");
        Due.text(p, "came 0;adds 0;minds 100;");
        Due.text(p, "came 0;adds 0;minds -1;");
        for (int t = 1; t <= 3; t++) {
            p.force(t);
            DUE.is("minds of text " + t, p.bad(0), t == 3 ? 0 : 99);
        }
        int[] came = {100, 101, 0, -1};
        int[] want = {100, 100, 0, 0};
        for (int i = 0; i < 4; i++) {
            PutOn q = new PutOn();
            q.doer(0, 0, 0);
            Due.text(q, "came " + came[i] + ";adds 0;minds 0;");
            q.force(1);
            DUE.is("came " + came[i], q.told(0, 7), want[i]);
        }
    }

    private static void forceRules() {
        PutOn p = new PutOn();
        p.clock(0, 0);
        p.doer(0, 0, 1);
        for (int text : new int[] {-1, 1, 6, Integer.MIN_VALUE, Integer.MAX_VALUE}) {
            DUE.is("force(" + text + ")", p.force(text), PutOn.BAD);
        }
        DUE.is("THE RULE stays", p.count(5), 0);
        Due.text(p, "came 30;adds 7;minds 2;");
        DUE.is("a text is no rule yet", p.at(0, 1, 0), 60);
        DUE.is("force(1)", p.force(1), 0);
        DUE.is("THE RULE", p.count(5), 1);
        DUE.is("AT by it", p.at(0, 1, 0), 7);
        DUE.is("came by it", p.world(1), 30);
        DUE.is("minds by it", p.bad(0), 2);
        DUE.is("force(1) again", p.force(1), 1);
        DUE.is("force(0)", p.force(0), 1);
        DUE.is("AT by text 0", p.at(0, 1, 0), 60);
        DUE.is("came by text 0", p.world(1), 50);
        DUE.is("minds by text 0", p.bad(0), 1);
        DUE.is("minds by text 0, below", p.bad(1), 2);
    }
}
