/** Promises 24 to 29: write, tear, judge, seed, keep, goBack. */
public final class BookAndImagesTest {
    private static final int UNKNOWN = SkittleGentry.UNKNOWN;
    private static final int NOT = SkittleGentry.NOT;
    private static final int NONE = SkittleGentry.NONE;
    private static final Due due = new Due();

    public static void main(String[] args) {
        writing();
        tearing();
        judging();
        seeding();
        keeping();
        goingBack();
        imagesWithoutCounty();
        due.end();
    }

    private static void writing() {
        due.is("write() without a COUNTY", new SkittleGentry().write(0, true), UNKNOWN);
        SkittleGentry x = Due.with("g0;s0 1 0;s0 1 0;");
        due.is("write(2, true)", x.write(2, true), UNKNOWN);
        due.is("write(-1, true)", x.write(-1, true), UNKNOWN);
        for (int n = 1; n <= 15; n++) {
            due.is("write() " + n, x.write(n % 2, true), n);
        }
        due.is("write() 16", x.write(0, true), SkittleGentry.FULL);
        due.is("write(2, true) when FULL", x.write(2, true), UNKNOWN);
        due.is("told(12)", x.told(12), 15);
        due.is("THE BOOK is not undone", x.told(13), 0);
    }

    private static void tearing() {
        SkittleGentry x = Due.with(Due.LIGHT);
        due.is("tear() of none", x.tear(), 0);
        x.write(0, false);
        x.write(1, false);
        due.is("tear() of two", x.tear(), 2);
        due.is("told(12)", x.told(12), 0);
        due.is("judge() of none", x.judge(), NONE);
        due.is("write() again", x.write(3, true), 1);
    }

    private static void judging() {
        SkittleGentry x = Due.with(Due.NINE);
        due.is("judge() at first", x.judge(), NONE);
        x.write(0, true);
        due.is("as it is", x.judge(), NONE);
        x.write(1, false);
        x.write(2, false);
        due.is("the first that is otherwise", x.judge(), 1);
        x.ball(2, 1, 8);
        due.is("0 lies", x.judge(), 0);
        x.lift(0);
        due.is("all as told", x.judge(), NONE);
        x.write(8, false);
        due.is("the last is otherwise", x.judge(), 3);
        x.change(0, 8);
        due.is("PLATES do not matter", x.judge(), 3);
    }

    private static void seeding() {
        SkittleGentry x = new SkittleGentry();
        due.is("seed(5)", x.seed(5), 0);
        due.is("seed(-1)", x.seed(-1), SkittleGentry.OUTSIDE);
        due.is("seed(most)", x.seed(2147483647), 5);
        due.is("seed(0)", x.seed(0), 2147483647);
        Due.feed(x, Due.NINE);
        x.county();
        x.seed(2147483647);
        x.drift(1);
        due.is("it stays in its bounds", x.seed(1) >= 0 ? 1 : 0, 1);
        SkittleGentry a = Due.with(Due.NINE);
        SkittleGentry b = Due.with(Due.NINE);
        a.seed(123456789);
        b.seed(123456789);
        due.is("alike by like SEEDS", a.drift(30), b.drift(30));
        due.is("their SEEDS", a.seed(0), b.seed(0));
    }

    private static void keeping() {
        SkittleGentry x = Due.with(Due.NINE);
        due.is("keep(2)", x.keep(2), UNKNOWN);
        due.is("keep(-1)", x.keep(-1), UNKNOWN);
        x.chip(0, 1);
        due.is("refused, it can be undone", x.told(13), 1);
        x.keep(-1);
        due.is("refused, it can still be undone", x.told(13), 1);
        due.is("keep(0)", x.keep(0), 1);
        due.is("nothing can be undone", x.told(13), 0);
        due.is("undo()", x.undo(), NOT);
        due.is("what is so stays", x.skittle(0, 2), 1);
    }

    private static void goingBack() {
        SkittleGentry x = Due.with(Due.NINE);
        due.is("goBack(0) not kept", x.goBack(0), NOT);
        due.is("goBack(2)", x.goBack(2), UNKNOWN);
        due.is("goBack(-1)", x.goBack(-1), UNKNOWN);
        x.seed(9);
        x.ball(2, 1, 8);
        x.change(0, 8);
        x.write(0, false);
        x.keep(1);
        due.is("goBack(0) when 1 is kept", x.goBack(0), NOT);
        x.setUp();
        x.drift(30);
        x.keep(0);
        int drifted = x.told(3) + 1000 * x.told(4);
        x.chip(1, 9);
        x.replace(2);
        x.tear();
        due.is("goBack(1)", x.goBack(1), 1);
        due.is("who stands", x.told(3), 504);
        due.is("THROWS", x.told(4), 1);
        due.is("PLATES", x.plate(0), 8);
        due.is("ROCKED", x.skittle(4, 5), 3);
        due.is("TAKEN", x.skittle(1, 6), 0);
        due.is("CHIP", x.skittle(1, 2), 1);
        due.is("KIND", x.skittle(2, 0), 0);
        due.is("nothing can be undone", x.told(13), 0);
        due.is("THE BOOK is no part of it", x.told(12), 0);
        due.is("THE SEED", x.seed(4), 9);
        due.is("goBack(0)", x.goBack(0), 1);
        due.is("as it had drifted", x.told(3) + 1000 * x.told(4), drifted);
        x.setUp();
        due.is("goBack(1) once more", x.goBack(1), 1);
        due.is("it is as it was kept", x.told(3), 504);
        due.is("THE SEED again", x.seed(0), 9);
    }

    private static void imagesWithoutCounty() {
        SkittleGentry x = new SkittleGentry();
        due.is("keep(0) without a COUNTY", x.keep(0), 1);
        x.seed(3);
        due.is("goBack(0) without a COUNTY", x.goBack(0), 1);
        due.is("THE SEED", x.seed(0), 0);
        Due.feed(x, "x");
        x.county();
        due.is("a FAULT keeps the IMAGE", x.goBack(0), 1);
        Due.feed(x, "g0;");
        x.county();
        due.is("a COUNTY does not", x.goBack(0), NOT);
    }
}
