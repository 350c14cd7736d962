/** The edges of section 1 and of promises 1 to 7: the text of THE COUNTY, its FAULTS, and what county() ends. */
public final class TextEdgesTest {
    private static final int NONE = SkittleGentry.NONE;
    private static final Due due = new Due();
    /** Nine SKITTLES told in 66 letters. */
    private static final String NINE_TOLD = Due.LIGHT;

    public static void main(String[] args) {
        mostLetters();
        floors();
        skittlesOfAText();
        kindsWeightsChips();
        figuresOfNumbers();
        blanks();
        numbersSideBySide();
        atTheFirstLetter();
        theEndOfTheText();
        ofTheseTheLeast();
        firstWord();
        everyLetter();
        numbersOutOfBounds();
        gAgain();
        tenthSkittle();
        emptyTexts();
        newObject();
        textIsEmptyThen();
        faultLeavesAllElse();
        countyEndsAllElse();
        faultOfTheLatest();
        withoutCounty();
        emptyPlates();
        due.end();
    }

    private static SkittleGentry told(String text) {
        SkittleGentry x = new SkittleGentry();
        Due.feed(x, text);
        return x;
    }

    private static SkittleGentry good(String text, int skittles) {
        SkittleGentry x = told(text);
        due.is("county() of '" + text + "'", x.county(), skittles);
        due.is("fault() of '" + text + "'", x.fault(), NONE);
        return x;
    }

    private static void bad(String text, int number, int where) {
        SkittleGentry x = told(text);
        due.is("county() of '" + text + "'", x.county(), -10 - number);
        due.is("fault() of '" + text + "'", x.fault(), where);
    }

    private static void mostLetters() {
        due.sentence("THE COUNTY is told in a text (240 letters at most)");
        SkittleGentry x = told("g5" + " ".repeat(237));
        due.is("the 240th letter", x.feed(';'), 240);
        due.is("the 241st letter", x.feed('x'), SkittleGentry.FULL);
        due.is("county() of 240 letters", x.county(), 0);
        due.is("its FLOOR", x.told(0), 5);
        good(NINE_TOLD + " ".repeat(240 - 66), 9);
        SkittleGentry last = told(" ".repeat(240 - 66) + NINE_TOLD);
        due.is("nine, told up to the 240th letter", last.county(), 9);
        due.is("the last one's WEIGHT", last.skittle(8, 1), 1);
        SkittleGentry cut = told("g5" + " ".repeat(238));
        due.is("the sign that is missing is not taken any more", cut.feed(';'), SkittleGentry.FULL);
        due.is("so it is missing", cut.county(), -11);
        due.is("at the end", cut.fault(), 240);
        due.is("the first letter is taken again", cut.feed('g'), 1);
    }

    private static void floors() {
        due.sentence("(FLOOR F, 0 .. 9: drag; first, once)");
        for (int f = 0; f <= 9; f++) {
            due.is("FLOOR " + f, good("g" + f + ";", 0).told(0), f);
        }
        for (int f : new int[] {10, 11, 99, 100, 999}) {
            bad("g" + f + ";", 2, 1);
        }
    }

    private static void skittlesOfAText() {
        due.sentence("(nine SKITTLES at most, on PLATES as they come");
        for (int n = 0; n <= 9; n++) {
            StringBuilder text = new StringBuilder("g0;");
            for (int i = 0; i < n; i++) {
                text.append("s0 ").append(i + 1).append(" 0;");
            }
            SkittleGentry x = good(text.toString(), n);
            due.is("told(1) of " + n, x.told(1), n);
            due.is("told(3) of " + n, x.told(3), (1 << n) - 1);
            for (int p = 0; p < 9; p++) {
                due.is("plate(" + p + ") of " + n, x.plate(p), p < n ? p : NONE);
                if (p < n) {
                    due.is("skittle(" + p + ", 3) of " + n, x.skittle(p, 3), p);
                    due.is("skittle(" + p + ", 1) of " + n, x.skittle(p, 1), p + 1);
                }
            }
        }
        bad("g0;" + "s0 1 0;".repeat(10), 3, 66);
    }

    private static void kindsWeightsChips() {
        due.sentence("KIND K, 0 .. 3; WEIGHT W, 1 .. 20; CHIP C, 0 .. 9).");
        for (int k = 0; k <= 3; k++) {
            due.is("KIND " + k, good("g0;s" + k + " 1 0;", 1).skittle(0, 0), k);
        }
        for (int w = 1; w <= 20; w++) {
            due.is("WEIGHT " + w, good("g0;s0 " + w + " 0;", 1).skittle(0, 1), w);
        }
        for (int c = 0; c <= 9; c++) {
            due.is("CHIP " + c, good("g0;s0 1 " + c + ";", 1).skittle(0, 2), c);
        }
        bad("g0;s4 1 0;", 2, 4);
        bad("g0;s10 1 0;", 2, 4);
        bad("g0;s999 1 0;", 2, 4);
        bad("g0;s0 0 0;", 2, 6);
        bad("g0;s0 00 0;", 2, 6);
        bad("g0;s0 000 0;", 2, 6);
        bad("g0;s0 21 0;", 2, 6);
        bad("g0;s0 200 0;", 2, 6);
        bad("g0;s0 1 10;", 2, 8);
        bad("g0;s0 1 100;", 2, 8);
    }

    private static void figuresOfNumbers() {
        due.sentence("NUMBERS have one to three figures");
        due.is("one figure", good("g7;", 0).told(0), 7);
        due.is("two figures", good("g07;", 0).told(0), 7);
        due.is("three figures", good("g007;", 0).told(0), 7);
        SkittleGentry x = good("g009;s003 020 009;", 1);
        due.is("KIND of three figures", x.skittle(0, 0), 3);
        due.is("WEIGHT of three figures", x.skittle(0, 1), 20);
        due.is("CHIP of three figures", x.skittle(0, 2), 9);
        due.sentence("2 a NUMBER of four figures or more");
        bad("g0007;", 2, 1);
        bad("g0000;", 2, 1);
        bad("g1000;", 2, 1);
        bad("g00007;", 2, 1);
        bad("g0;s0000 1 0;", 2, 4);
        bad("g0;s0 0001 0;", 2, 6);
        bad("g0;s0 1 0000;", 2, 8);
        bad("g" + "0".repeat(239), 2, 1);
        // Numbers that would be in their bounds again once they have gone round.
        bad("g4294967296;", 2, 1);
        bad("g18446744073709551616;", 2, 1);
        bad("g0;s0 4294967297 0;", 2, 6);
        bad("g0;s0 65537 0;", 2, 6);
    }

    private static void blanks() {
        due.sentence("blanks (32) may stand anywhere but within NUMBERS");
        String[] parts = {"", "g", "3", ";", "s", "2", " 19", " 8", ";", ""};
        for (int gap = 0; gap + 1 < parts.length; gap++) {
            for (int many = 1; many <= 3; many++) {
                StringBuilder text = new StringBuilder();
                for (int i = 0; i < parts.length; i++) {
                    text.append(parts[i]).append(i == gap ? " ".repeat(many) : "");
                }
                SkittleGentry x = good(text.toString(), 1);
                due.is("its FLOOR", x.told(0), 3);
                due.is("its WEIGHT", x.skittle(0, 1), 19);
            }
        }
        bad("g0;s0 1 9 0;", 1, 10);
        bad("g0 0;", 1, 3);
        // What else is white is no blank.
        for (int letter : new int[] {0, 9, 10, 11, 12, 13, 31, 33, 160}) {
            bad((char) letter + "g0;", 1, 0);
            bad("g0;" + (char) letter, 1, 3);
        }
    }

    private static void numbersSideBySide() {
        due.sentence("two NUMBERS side by side need one");
        good("g0;s1 2 3;", 1);
        bad("g0;s12 3;", 2, 4);
        bad("g0;s02 3;", 1, 8);
        bad("g0;s1 23;", 2, 6);
        bad("g0;s1 13;", 1, 8);
        bad("g0;s123;", 2, 4);
        bad("g0;s003;", 1, 7);
        // None is needed between a NUMBER and a word.
        good("g0;s1 2 3;s1 2 3;", 2);
    }

    private static void atTheFirstLetter() {
        due.sentence("FAULTS, at the first letter that has one");
        bad("x", 1, 0);
        bad("xyz", 1, 0);
        bad("g99;x", 2, 1);
        bad("g99x", 2, 1);
        bad("gx99", 1, 1);
        bad("g0;s4 21 10;", 2, 4);
        bad("g0;s3 21 10;", 2, 6);
        bad("g0;s3 20 10;", 2, 9);
        bad("g0;s3 20 9x", 1, 10);
        bad("g0;g0;x", 3, 3);
        bad("g0;xg0;", 1, 3);
        bad("g0;s0 1 0;g;s9", 3, 10);
        // A NUMBER has its FAULT at its first figure, so ahead of a letter within reach of its fourth.
        bad("g0000x", 2, 1);
    }

    private static void theEndOfTheText() {
        due.sentence("(the end at the text's length)");
        String whole = "g0;s0 1 0;";
        for (int length = 1; length < whole.length(); length++) {
            if (length == 3) {
                good(whole.substring(0, length), 0);
            } else {
                bad(whole.substring(0, length), 1, length);
                bad(whole.substring(0, length) + "  ", 1, length + 2);
            }
        }
        bad("g" + " ".repeat(239), 1, 240);
        bad(" ".repeat(239) + "g", 1, 240);
        bad(" ".repeat(238) + "g0", 1, 240);
        bad(" ".repeat(239) + "x", 1, 239);
    }

    private static void ofTheseTheLeast() {
        due.sentence("of these the least");
        // 1 and 3 at one letter: 'g' again, or a tenth 's', where no word can stand.
        bad("gg", 1, 1);
        bad("g0g", 1, 2);
        bad("g0;sg", 1, 4);
        bad("g0;s0g", 1, 5);
        bad("g0;s0 1 0g", 1, 9);
        bad("g0;" + "s0 1 0;".repeat(8) + "ss", 1, 60);
        bad("g0;" + "s0 1 0;".repeat(8) + "s0 1 s", 1, 64);
        bad("g0;" + "s0 1 0;".repeat(8) + "s0 1 0s", 1, 65);
        // 1 and 2 at one letter: a NUMBER too long, or too large, where none can stand.
        bad("0000", 1, 0);
        bad("g0;9999", 1, 3);
        bad("g0 9999;", 1, 3);
        bad("g0;s0 1 0 99;", 1, 10);
        bad(NINE_TOLD + "9999", 1, 66);
    }

    private static void firstWord() {
        due.sentence("1 it cannot stand there (a letter that is no word, another word first than 'g').");
        bad("s0 1 0;", 1, 0);
        bad("s", 1, 0);
        bad(" s0 1 0;g0;", 1, 1);
        bad(";", 1, 0);
        bad("G0;", 1, 0);
        bad("g0;S0 1 0;", 1, 3);
        bad("g0,", 1, 2);
        bad("g+1;", 1, 1);
        bad("g-1;", 1, 1);
        bad("g1.0;", 1, 2);
        due.sentence("a word is one letter");
        bad("gs0;", 1, 1);
        bad("gg0;", 1, 1);
        bad("g0;ss0 1 0;", 1, 4);
        bad("g0;s0 1 0;;", 1, 10);
    }

    /** Each letter that there is, at each sort of place: what it is there, and where the FAULT is. */
    private static void everyLetter() {
        due.sentence("1 it cannot stand there (a letter that is no word");
        for (int c = 0; c <= 255; c++) {
            if (c >= '0' && c <= '9') {
                figureAtEachPlace((char) c);
            } else if (c == ' ') {
                bad(" 0;", 1, 1);
                bad("g0 ", 1, 3);
                bad("g0;s ", 1, 5);
                good("g0; ", 0);
                good(NINE_TOLD + " ", 9);
            } else {
                letterAtEachPlace((char) c);
            }
        }
    }

    private static void figureAtEachPlace(char c) {
        bad(c + "0;", 1, 0);
        good("g" + c + ";", 0);
        bad("g1" + c + ";", 2, 1);
        bad("g0;" + c, 1, 3);
        bad("g0;s" + c, c <= '3' ? 1 : 2, c <= '3' ? 5 : 4);
        bad(NINE_TOLD + c, 1, 66);
    }

    private static void letterAtEachPlace(char c) {
        if (c == 'g') {
            good(c + "0;", 0);
        } else {
            bad(c + "0;", 1, 0);
        }
        bad("g" + c, 1, 1);
        if (c == ';') {
            good("g0" + c, 0);
            good("g0;s0 1 0" + c, 1);
        } else {
            bad("g0" + c, 1, 2);
            bad("g0;s0 1 0" + c, 1, 9);
        }
        bad("g0;s" + c, 1, 4);
        bad("g0;s0" + c, 1, 5);
        bad("g0;s0 1" + c, 1, 7);
        bad("g0;" + c, c == 'g' ? 3 : 1, c == 's' ? 4 : 3);
        bad(NINE_TOLD + c, c == 'g' || c == 's' ? 3 : 1, 66);
    }

    private static void numbersOutOfBounds() {
        due.sentence("or out of its bounds (at its first).");
        bad("g10", 2, 1);
        bad("g   10;", 2, 4);
        bad("g010;", 2, 1);
        bad("g 999 ;", 2, 2);
        bad("g0;s  004 1 0;", 2, 6);
        bad("g0;s0   021 0;", 2, 8);
        bad("g0;s0 1   010;", 2, 10);
        // The NUMBER ends the text: what is missing behind it is a later FAULT.
        bad("g0;s0 0", 2, 6);
        bad("g0;s0 1 99", 2, 8);
    }

    private static void gAgain() {
        due.sentence("3 'g' again, a tenth 's' (at it).");
        bad("g0;g", 3, 3);
        bad("g0;  g", 3, 5);
        bad("g0;s0 1 0;g0;", 3, 10);
        bad(NINE_TOLD + "g0;", 3, 66);
    }

    private static void tenthSkittle() {
        due.sentence("3 'g' again, a tenth 's' (at it).");
        bad(NINE_TOLD + "s", 3, 66);
        bad(NINE_TOLD + "s0 1 0;", 3, 66);
        bad(NINE_TOLD + "   s9 99 99;", 3, 69);
        good(NINE_TOLD, 9);
    }

    private static void emptyTexts() {
        due.sentence("An empty text (or one of blanks alone): no COUNTY.");
        for (int blanks : new int[] {0, 1, 2, 240}) {
            SkittleGentry x = good(" ".repeat(blanks), 0);
            due.is("told(0) of " + blanks + " blanks", x.told(0), NONE);
            due.is("setUp() of " + blanks + " blanks", x.setUp(), SkittleGentry.NOT);
        }
        SkittleGentry was = Due.with(Due.NINE);
        due.is("county() of nothing, behind a COUNTY", was.county(), 0);
        due.same("it is as a new one", Look.now(was), Look.now(new SkittleGentry()));
        due.is("skittle(0, 0) then", was.skittle(0, 0), SkittleGentry.UNKNOWN);
        // A COUNTY of no SKITTLES is one, though.
        due.is("told(0) of a FLOOR alone", good("g0;", 0).told(0), 0);
        due.is("setUp() of a FLOOR alone", good("g0;", 0).setUp(), 0);
    }

    private static void newObject() {
        due.sentence("`SkittleGentry()`: No COUNTY.");
        SkittleGentry x = new SkittleGentry();
        due.is("told(0)", x.told(0), NONE);
        due.is("told(2)", x.told(2), 0);
        due.is("fault()", x.fault(), NONE);
        due.is("ball()", x.ball(2, 1, 40), SkittleGentry.NOT);
        due.is("undo()", x.undo(), SkittleGentry.NOT);
        due.is("goBack(0)", x.goBack(0), SkittleGentry.NOT);
        due.is("goBack(1)", x.goBack(1), SkittleGentry.NOT);
        due.sentence("THE SEED (0 at first");
        due.is("seed(7)", x.seed(7), 0);
    }

    private static void textIsEmptyThen() {
        due.sentence("THE TEXT (it is empty then, with a FAULT, too) becomes THE COUNTY");
        for (String text : new String[] {"", "  ", "g0;", NINE_TOLD, "x", "g99;", "g0;g"}) {
            SkittleGentry x = told(text);
            due.is("told(2) ahead of county()", x.told(2), text.length());
            x.county();
            due.is("told(2) behind county() of '" + text + "'", x.told(2), 0);
            due.is("feed() then", x.feed('g'), 1);
            due.is("county() of that alone", x.county(), -11);
            due.is("fault() of that alone", x.fault(), 1);
        }
    }

    private static SkittleGentry lived() {
        SkittleGentry x = Due.with(Due.NINE);
        x.seed(11);
        x.ball(2, 1, 8);
        x.keep(1);
        x.write(1, false);
        x.write(8, false);
        x.change(0, 8);
        x.drift(1);
        return x;
    }

    private static void faultLeavesAllElse() {
        due.sentence("-10 less the number of its FAULT (all else is as it was).");
        String gentry = Look.gentry(lived());
        String hidden = Look.hidden(lived());
        String[] texts = {"x", "g", "g99;", "g1;s0 5 0;s9", "g1;s1 2 3;s1 2 3;g", NINE_TOLD + "s"};
        int[] faults = {1, 1, 2, 2, 3, 3};
        for (int i = 0; i < texts.length; i++) {
            SkittleGentry x = lived();
            Due.feed(x, texts[i]);
            due.is("county() of '" + texts[i] + "'", x.county(), -10 - faults[i]);
            due.same("what is so", Look.gentry(x), gentry);
            due.is("told(12)", x.told(12), 2);
            due.is("judge()", x.judge(), 1);
            due.is("told(13)", x.told(13), 2);
            due.is("told(10)", x.told(10), lived().told(10));
            due.is("allDown(1)", x.allDown(1), lived().allDown(1));
            due.same("what is hidden", Look.hidden(x), hidden);
        }
        SkittleGentry none = told("g1;s0 5 0;x");
        due.is("county() without a COUNTY", none.county(), -11);
        due.is("there is none then", none.told(0), NONE);
        due.is("and no SKITTLES", none.told(1), 0);
    }

    private static void countyEndsAllElse() {
        due.sentence("(SKITTLE k on PLATE k, all stand, nothing counted; no BOOK; IMAGES, what could be undone are gone");
        for (String text : new String[] {"", "g4;", "g4;s1 7 3;s3 9 0;", Due.NINE}) {
            SkittleGentry x = lived();
            x.keep(0);
            floorer(x);
            x.setUp();
            x.told(10);
            x.allDown(0);
            Due.feed(x, text);
            int n = x.county();
            due.is("THROWS", x.told(4), 0);
            due.is("FLOORERS", x.told(5), 0);
            due.is("entries", x.told(12), 0);
            due.is("to be undone", x.told(13), 0);
            due.is("who stands", x.told(3), (1 << n) - 1);
            due.is("IMAGE 0", x.goBack(0), SkittleGentry.NOT);
            due.is("IMAGE 1", x.goBack(1), SkittleGentry.NOT);
            due.is("undo()", x.undo(), SkittleGentry.NOT);
            due.same("all as in a new object", Look.now(x), Look.now(Due.with(text)));
        }
        due.sentence("THE SEED stays): how many SKITTLES");
        SkittleGentry seeded = Due.with(Due.NINE);
        seeded.seed(123);
        Due.feed(seeded, "g0;");
        seeded.county();
        due.is("seed() behind county()", seeded.seed(124), 123);
        seeded.county();
        due.is("seed() behind county() of nothing", seeded.seed(0), 124);
    }

    private static void floorer(SkittleGentry x) {
        for (int s = 0; s < 9; s++) {
            x.replace(s);
        }
        x.setUp();
        x.ball(2, 1, 40);
        due.is("a FLOORER ahead of county()", x.told(5), 1);
    }

    private static void faultOfTheLatest() {
        due.sentence("The letter of the FAULT of the latest county(); NONE.");
        SkittleGentry x = told("g0;x");
        due.is("ahead of county()", x.fault(), NONE);
        x.county();
        due.is("behind it", x.fault(), 3);
        Due.feed(x, "gx");
        due.is("while another text is told", x.fault(), 3);
        x.county();
        due.is("behind the second", x.fault(), 1);
        x.county();
        due.is("behind an empty one", x.fault(), NONE);
        Due.feed(x, "x");
        x.county();
        due.is("at the first letter", x.fault(), 0);
        Due.feed(x, "g0;");
        x.county();
        due.is("behind one without a FAULT", x.fault(), NONE);
    }

    private static void withoutCounty() {
        due.sentence("0 FLOOR (NONE without a COUNTY)");
        SkittleGentry x = new SkittleGentry();
        due.is("told(0)", x.told(0), NONE);
        due.sentence("13 how many can be undone (6 to 10: NONE without a COUNTY). OUTSIDE.");
        for (int what = 6; what <= 10; what++) {
            due.is("told(" + what + ")", x.told(what), NONE);
        }
        for (int what : new int[] {1, 2, 3, 4, 5, 11, 12, 13}) {
            due.is("told(" + what + ")", x.told(what), 0);
        }
        SkittleGentry bare = Due.with("g9;");
        int[] want = {9, 0, 0, 0, 0, 0, 1, 0, NONE, NONE, 600, 0, 0, 0};
        for (int what = 0; what <= 13; what++) {
            due.is("of no SKITTLES: told(" + what + ")", bare.told(what), want[what]);
        }
    }

    private static void emptyPlates() {
        due.sentence("Who is on a PLATE (0 .. 8); NONE. UNKNOWN.");
        for (int p = 0; p < 9; p++) {
            due.is("without a COUNTY, plate(" + p + ")", new SkittleGentry().plate(p), NONE);
            due.is("of no SKITTLES, plate(" + p + ")", Due.with("g0;").plate(p), NONE);
            due.is("of nine, plate(" + p + ")", Due.with(NINE_TOLD).plate(p), p);
        }
        SkittleGentry x = Due.with(NINE_TOLD);
        x.ball(2, 1, 40);
        due.is("one that lies is on its PLATE", x.plate(8), 8);
    }
}
