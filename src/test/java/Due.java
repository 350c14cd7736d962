/** What the tests share: answers that are due, and texts fed letter by letter. */
final class Due {
    /** A COUNTY of nine, with a FLOOR of 3; they BEAR 8, 4, 4, 5, 6, 3, 5, 2, 20. */
    static final String NINE = "g3;s2 6 0;s0 5 1;s0 4 0;s1 7 4;s0 8 2;s0 3 0;s3 10 0;s1 2 0;s0 20 0;";
    /** A COUNTY of nine that BEAR 1 each, without drag. */
    static final String LIGHT = "g0;" + "s0 1 0;".repeat(9);

    private int wrong;
    private int asked;
    private String sentence = "";

    /** The words of the document that what follows is due by: they are told with each answer that is wrong. */
    void sentence(String words) {
        sentence = "[" + words + "] ";
    }

    void is(String call, long got, long want) {
        asked++;
        if (got != want) {
            wrong++;
            System.out.println(sentence + call + " answered " + got + ", due is " + want);
        }
    }

    void same(String what, String got, String want) {
        asked++;
        if (!got.equals(want)) {
            wrong++;
            System.out.println(sentence + what + " is\n  " + got + ", due is\n  " + want);
        }
    }

    void holds(String what, boolean so) {
        asked++;
        if (!so) {
            wrong++;
            System.out.println(sentence + "does not hold: " + what);
        }
    }

    int wrong() {
        return wrong;
    }

    static void feed(SkittleGentry x, String text) {
        for (int i = 0; i < text.length(); i++) {
            x.feed(text.charAt(i));
        }
    }

    static SkittleGentry with(String text) {
        SkittleGentry x = new SkittleGentry();
        feed(x, text);
        x.county();
        return x;
    }

    void end() {
        System.out.println(asked + " answers, " + wrong + " not as due");
        if (wrong != 0 || asked == 0) {
            System.exit(1);
        }
    }
}
