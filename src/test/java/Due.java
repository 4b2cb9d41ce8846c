/** What a test is due: prints each answer that is not, and ends the run with 1 if there was one. */
final class Due {
    private final String test;
    private int asked = 0;
    private int wrong = 0;

    Due(String test) {
        this.test = test;
    }

    void is(String call, long got, long want) {
        asked++;
        if (got != want) {
            wrong++;
            System.out.println(test + ": " + call + " answered " + got + ", due is " + want);
        }
    }

    void holds(String what, boolean so) {
        is(what, so ? 1 : 0, 1);
    }

    void end() {
        System.out.println(test + ": " + asked + " asked, " + wrong + " wrong");
        if (wrong != 0 || asked == 0) {
            System.exit(1);
        }
    }

    /** Feeds a text, byte by byte, and has it read. */
    static int text(PutOn p, String text) {
        for (int i = 0; i < text.length(); i++) {
            p.feed(text.charAt(i));
        }
        return p.text();
    }
}
