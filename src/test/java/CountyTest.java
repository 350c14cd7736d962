/** Promises 1 to 7: a new object, feed, county, fault, told, skittle, plate. */
public final class CountyTest {
    private static final Due due = new Due();

    public static void main(String[] args) {
        newObject();
        feeding();
        countyBegins();
        countyWithoutText();
        faultKeepsAll();
        texts();
        faults();
        toldNumbers();
        skittles();
        bearing();
        takers();
        plates();
        due.end();
    }

    private static void newObject() {
        SkittleGentry x = new SkittleGentry();
        int[] want = {-1, 0, 0, 0, 0, 0, -1, -1, -1, -1, -1, 0, 0, 0};
        for (int what = 0; what < want.length; what++) {
            due.is("new: told(" + what + ")", x.told(what), want[what]);
        }
        due.is("new: fault()", x.fault(), SkittleGentry.NONE);
        due.is("new: seed(0)", x.seed(0), 0);
        due.is("new: undo()", x.undo(), SkittleGentry.NOT);
        due.is("new: judge()", x.judge(), SkittleGentry.NONE);
        due.is("new: goBack(0)", x.goBack(0), SkittleGentry.NOT);
        due.is("new: skittle(0, 0)", x.skittle(0, 0), SkittleGentry.UNKNOWN);
        for (int p = 0; p < 9; p++) {
            due.is("new: plate(" + p + ")", x.plate(p), SkittleGentry.NONE);
        }
    }

    private static void feeding() {
        SkittleGentry x = new SkittleGentry();
        due.is("feed(-1)", x.feed(-1), SkittleGentry.OUTSIDE);
        due.is("feed(256)", x.feed(256), SkittleGentry.OUTSIDE);
        due.is("told(2) after refusals", x.told(2), 0);
        due.is("feed(0)", x.feed(0), 1);
        due.is("feed(255)", x.feed(255), 2);
        for (int i = 3; i <= 240; i++) {
            due.is("feed(32)", x.feed(32), i);
        }
        due.is("feed(32) at 240", x.feed(32), SkittleGentry.FULL);
        due.is("feed(256) at 240", x.feed(256), SkittleGentry.OUTSIDE);
        due.is("told(2) at 240", x.told(2), 240);
        due.is("county() with letter 0", x.county(), -11);
        due.is("told(2) behind county()", x.told(2), 0);
        due.is("feed(32) again", x.feed(32), 1);
    }

    private static void countyBegins() {
        SkittleGentry x = Due.with(Due.LIGHT);
        x.seed(77);
        x.ball(2, 1, 40);
        x.setUp();
        x.replace(0);
        Due.feed(x, "g5;s1 7 3;s3 9 0;");
        x.county();
        x.ball(2, 1, 1);
        due.is("it ROCKS", x.skittle(0, 5), 1);
        x.change(0, 8);
        x.write(0, true);
        x.keep(1);
        x.chip(1, 4);
        Due.feed(x, "g5;s1 7 3;s3 9 0;");
        due.is("second county()", x.county(), 2);
        int[] want = {5, 2, 0, 3, 0, 0};
        for (int what = 0; what < want.length; what++) {
            due.is("second: told(" + what + ")", x.told(what), want[what]);
        }
        due.is("second: told(12)", x.told(12), 0);
        due.is("second: told(13)", x.told(13), 0);
        due.is("second: undo()", x.undo(), SkittleGentry.NOT);
        due.is("second: goBack(1)", x.goBack(1), SkittleGentry.NOT);
        due.is("second: seed(1)", x.seed(1), 77);
        for (int p = 0; p < 9; p++) {
            due.is("second: plate(" + p + ")", x.plate(p), p < 2 ? p : SkittleGentry.NONE);
        }
        for (int s = 0; s < 2; s++) {
            due.is("second: skittle(" + s + ", 3)", x.skittle(s, 3), s);
            due.is("second: skittle(" + s + ", 5)", x.skittle(s, 5), 0);
            due.is("second: skittle(" + s + ", 6)", x.skittle(s, 6), SkittleGentry.NONE);
        }
    }

    private static void countyWithoutText() {
        SkittleGentry x = Due.with(Due.NINE);
        x.ball(2, 1, 8);
        x.write(0, false);
        x.keep(0);
        Due.feed(x, "   ");
        due.is("county() of blanks", x.county(), 0);
        due.is("fault() of blanks", x.fault(), SkittleGentry.NONE);
        due.is("told(0) of blanks", x.told(0), SkittleGentry.NONE);
        due.is("told(1) of blanks", x.told(1), 0);
        due.is("told(3) of blanks", x.told(3), 0);
        due.is("told(4) of blanks", x.told(4), 0);
        due.is("told(12) of blanks", x.told(12), 0);
        due.is("goBack(0) of blanks", x.goBack(0), SkittleGentry.NOT);
        due.is("ball() of blanks", x.ball(0, 0, 1), SkittleGentry.NOT);
        due.is("plate(0) of blanks", x.plate(0), SkittleGentry.NONE);
        Due.feed(x, "g0;");
        due.is("county() with a FLOOR alone", x.county(), 0);
        due.is("told(0) with a FLOOR alone", x.told(0), 0);
        due.is("told(6) with a FLOOR alone", x.told(6), 1);
        due.is("told(7) with a FLOOR alone", x.told(7), 0);
        due.is("told(8) with a FLOOR alone", x.told(8), SkittleGentry.NONE);
        due.is("told(9) with a FLOOR alone", x.told(9), SkittleGentry.NONE);
        due.is("told(10) with a FLOOR alone", x.told(10), 600);
        due.is("ball() with a FLOOR alone", x.ball(2, 1, 40), 0);
    }

    private static void faultKeepsAll() {
        SkittleGentry x = Due.with(Due.NINE);
        x.ball(2, 1, 8);
        x.write(4, false);
        x.keep(0);
        x.chip(8, 1);
        Due.feed(x, "g1;s0 5 0;g");
        due.is("county() with a FAULT", x.county(), -13);
        due.is("fault()", x.fault(), 10);
        due.is("told(0) behind a FAULT", x.told(0), 3);
        due.is("told(1) behind a FAULT", x.told(1), 9);
        due.is("told(2) behind a FAULT", x.told(2), 0);
        due.is("told(3) behind a FAULT", x.told(3), 504);
        due.is("told(4) behind a FAULT", x.told(4), 1);
        due.is("told(12) behind a FAULT", x.told(12), 1);
        due.is("told(13) behind a FAULT", x.told(13), 1);
        due.is("skittle(0, 1) behind a FAULT", x.skittle(0, 1), 6);
        due.is("undo() behind a FAULT", x.undo(), 0);
        due.is("goBack(0) behind a FAULT", x.goBack(0), 1);
        Due.feed(x, "g1;");
        due.is("county() without one", x.county(), 0);
        due.is("fault() without one", x.fault(), SkittleGentry.NONE);
    }

    private static void texts() {
        text("g0;", 0);
        text("  g  9  ;  ", 0);
        text("g007;s003 020 009;", 1);
        text("g0;s0 1 0;s3 20 9;", 2);
        text(" g 0 ; s 0  1   0 ; ", 1);
        text(Due.LIGHT, 9);
        text(Due.LIGHT + "  ", 9);
    }

    private static void text(String text, int want) {
        SkittleGentry x = new SkittleGentry();
        Due.feed(x, text);
        due.is("county() of '" + text + "'", x.county(), want);
        due.is("fault() of '" + text + "'", x.fault(), SkittleGentry.NONE);
    }

    private static void faults() {
        fault("s0 1 0;", 1, 0);
        fault("  s", 1, 2);
        fault("0", 1, 0);
        fault("1234", 1, 0);
        fault(";", 1, 0);
        fault("G0;", 1, 0);
        fault("g", 1, 1);
        fault("g  ", 1, 3);
        fault("g;", 1, 1);
        fault("gg", 1, 1);
        fault("g0", 1, 2);
        fault("g0 ", 1, 3);
        fault("g0 1;", 1, 3);
        fault("g0 1234;", 1, 3);
        fault("g0s", 1, 2);
        fault("g0;;", 1, 3);
        fault("g0;5", 1, 3);
        fault("g0;x", 1, 3);
        fault("g0;s", 1, 4);
        fault("g0;s;", 1, 4);
        fault("g0;sg", 1, 4);
        fault("g0;s0", 1, 5);
        fault("g0;s0 1", 1, 7);
        fault("g0;s0 1 0", 1, 9);
        fault("g0;s0 1 0 0;", 1, 10);
        fault("g0;s0 1 0g", 1, 9);
        fault("g0;s0 1 0s", 1, 9);
        fault("g0;s0,1 0;", 1, 5);
        fault("g-1;", 1, 1);
        fault("g10;", 2, 1);
        fault("g 0000;", 2, 2);
        fault("g99999999999999999999", 2, 1);
        fault("g4294967296;", 2, 1);
        fault("g0;s4 1 0;", 2, 4);
        fault("g0;s0 0 0;", 2, 6);
        fault("g0;s0 21 0;", 2, 6);
        fault("g0;s0 0001 0;", 2, 6);
        fault("g0;s0 1 10;", 2, 8);
        fault("g0;s01 0;", 2, 7);
        fault("g0;s9 0 x", 2, 4);
        fault("g0;g", 3, 3);
        fault("g0; g0;", 3, 4);
        fault("g0;s0 1 0;g", 3, 10);
        fault(Due.LIGHT + "s", 3, 66);
        fault(Due.LIGHT + " s0 1 0;", 3, 67);
        fault(Due.LIGHT + "g", 3, 66);
        fault(Due.LIGHT + "x", 1, 66);
    }

    private static void fault(String text, int number, int where) {
        SkittleGentry x = new SkittleGentry();
        Due.feed(x, text);
        due.is("county() of '" + text + "'", x.county(), -10 - number);
        due.is("fault() of '" + text + "'", x.fault(), where);
        due.is("told(2) of '" + text + "'", x.told(2), 0);
    }

    private static void toldNumbers() {
        SkittleGentry x = Due.with(Due.NINE);
        int[] want = {3, 9, 0, 511, 0, 0, 2140, 9, 8, 12, 287, 0, 0, 0};
        for (int what = 0; what < want.length; what++) {
            due.is("nine: told(" + what + ")", x.told(what), want[what]);
        }
        due.is("told(-1)", x.told(-1), SkittleGentry.OUTSIDE);
        due.is("told(14)", x.told(14), SkittleGentry.OUTSIDE);
        due.is("told(least)", x.told(Integer.MIN_VALUE), SkittleGentry.OUTSIDE);
        x.feed('g');
        x.write(3, true);
        x.ball(2, 1, 8);
        due.is("told(2)", x.told(2), 1);
        due.is("told(3)", x.told(3), 504);
        due.is("told(4)", x.told(4), 1);
        due.is("told(11)", x.told(11), 2);
        due.is("told(12)", x.told(12), 1);
        due.is("told(13)", x.told(13), 1);
        SkittleGentry light = Due.with(Due.LIGHT);
        due.is("SAFEST, of like ones the least", light.told(8), 0);
        due.is("by how many that FALLS", light.told(9), 120);
        due.is("WORST, of like ones the first", light.told(6), 2016);
        light.ball(2, 1, 40);
        due.is("told(5)", light.told(5), 1);
        due.is("told(6) when all lie", light.told(6), 1);
        due.is("told(7) when all lie", light.told(7), 0);
        due.is("told(8) when all lie", light.told(8), SkittleGentry.NONE);
        due.is("told(9) when all lie", light.told(9), SkittleGentry.NONE);
        due.is("told(10) when all lie", light.told(10), 600);
        due.is("told(11) when all lie", light.told(11), 12);
    }

    private static void skittles() {
        SkittleGentry x = Due.with(Due.NINE);
        int[][] want = {
            {2, 6, 0, 0, 1, 0, -1, 0, 8}, {0, 5, 1, 1, 1, 0, -1, 1, 4}, {0, 4, 0, 2, 1, 0, -1, 2, 4},
            {1, 7, 4, 3, 1, 0, -1, 3, 5}, {0, 8, 2, 4, 1, 0, -1, 4, 6}, {0, 3, 0, 5, 1, 0, -1, 5, 3},
            {3, 10, 0, 6, 1, 0, -1, 6, 5}, {1, 2, 0, 7, 1, 0, -1, 7, 2}, {0, 20, 0, 8, 1, 0, -1, 8, 20}};
        for (int s = 0; s < 9; s++) {
            for (int what = 0; what < 9; what++) {
                due.is("skittle(" + s + ", " + what + ")", x.skittle(s, what), want[s][what]);
            }
        }
        due.is("skittle(9, 0)", x.skittle(9, 0), SkittleGentry.UNKNOWN);
        due.is("skittle(-1, 0)", x.skittle(-1, 0), SkittleGentry.UNKNOWN);
        due.is("skittle(9, 9)", x.skittle(9, 9), SkittleGentry.UNKNOWN);
        due.is("skittle(0, 9)", x.skittle(0, 9), SkittleGentry.OUTSIDE);
        due.is("skittle(0, -1)", x.skittle(0, -1), SkittleGentry.OUTSIDE);
        x.ball(2, 1, 8);
        due.is("fallen: skittle(0, 4)", x.skittle(0, 4), 0);
        due.is("fallen: skittle(0, 6)", x.skittle(0, 6), -1);
        due.is("fallen: skittle(1, 6)", x.skittle(1, 6), 0);
        due.is("fallen: skittle(1, 7)", x.skittle(1, 7), 0);
        due.is("rocked thrice: skittle(4, 5)", x.skittle(4, 5), 3);
        due.is("rocked once: skittle(3, 5)", x.skittle(3, 5), 1);
        SkittleGentry two = Due.with("g0;s0 1 0;s0 1 0;");
        due.is("of two: skittle(2, 0)", two.skittle(2, 0), SkittleGentry.UNKNOWN);
    }

    private static void bearing() {
        SkittleGentry x = Due.with("g0;s2 5 1;s2 5 1;s1 5 9;s1 5 8;s3 1 9;s3 7 9;s0 3 9;s1 1 9;s2 1 9;");
        int[] want = {6, 4, 1, 1, 1, 3, 1, 1, 1};
        for (int s = 0; s < 9; s++) {
            due.is("bearing: skittle(" + s + ", 8)", x.skittle(s, 8), want[s]);
        }
        x.change(0, 8);
        due.is("a saint behind: skittle(0, 8)", x.skittle(0, 8), 4);
        due.is("a chipped saint in front: skittle(8, 8)", x.skittle(8, 8), 1);
        x.chip(8, 0);
        due.is("a light saint in front: skittle(8, 8)", x.skittle(8, 8), 3);
        x.chip(2, 3);
        due.is("an old family: skittle(2, 8)", x.skittle(2, 8), 4);
    }

    /** 0 takes 1 by one BALL, 2 takes 0 by another, 1 takes 2 by a third: what each keeps is of its own time. */
    private static void takers() {
        SkittleGentry x = Due.with("g0;s0 1 0;s0 1 0;s0 9 8;s0 9 0;s0 9 0;s0 9 0;s0 9 0;s0 9 0;s0 9 0;");
        x.change(2, 8);
        due.is("0 takes 1", x.ball(2, 1, 2), 3);
        due.is("1 was TAKEN by 0", x.skittle(1, 6), 0);
        due.is("FIRST of 1", x.skittle(1, 7), 0);
        x.setUp();
        due.is("SET UP, it keeps that", x.skittle(1, 6), 0);
        x.change(0, 8);
        x.change(1, 8);
        due.is("2 in front, 0 behind it", 10 * x.plate(0) + x.plate(1), 20);
        due.is("2 takes 0", x.ball(2, 1, 2), 5);
        due.is("FIRST of 0", x.skittle(0, 7), 2);
        due.is("FIRST of 1, by 0, by 2", x.skittle(1, 7), 2);
        due.is("LIFTED, it keeps that", x.lift(0) * 10 + x.skittle(0, 6), 82);
        x.setUp();
        x.change(0, 8);
        x.change(1, 8);
        due.is("1 in front, 2 behind it", 10 * x.plate(0) + x.plate(1), 12);
        due.is("1 takes 2", x.ball(2, 1, 2), 6);
        due.is("1 was TAKEN by a BALL last", x.skittle(1, 6), SkittleGentry.NONE);
        due.is("FIRST of 1 is itself", x.skittle(1, 7), 1);
        due.is("FIRST of 0, by 2, by 1", x.skittle(0, 7), 1);
    }

    private static void plates() {
        SkittleGentry x = Due.with("g0;s0 1 0;s0 1 0;");
        due.is("plate(0)", x.plate(0), 0);
        due.is("plate(1)", x.plate(1), 1);
        due.is("plate(2)", x.plate(2), SkittleGentry.NONE);
        due.is("plate(8)", x.plate(8), SkittleGentry.NONE);
        due.is("plate(9)", x.plate(9), SkittleGentry.UNKNOWN);
        due.is("plate(-1)", x.plate(-1), SkittleGentry.UNKNOWN);
        x.ball(2, 1, 40);
        due.is("plate(0) of one that lies", x.plate(0), 0);
        x.change(0, 8);
        due.is("plate(8) when CHANGED", x.plate(8), 0);
        due.is("plate(0) when CHANGED", x.plate(0), SkittleGentry.NONE);
    }
}
