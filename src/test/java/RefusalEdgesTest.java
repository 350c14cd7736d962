import java.util.ArrayList;
import java.util.List;

/** The edges of "Terms": what is refused, in which order, for which numbers; and that it changes nothing. */
public final class RefusalEdgesTest {
    private static final int UNKNOWN = SkittleGentry.UNKNOWN;
    private static final int OUTSIDE = SkittleGentry.OUTSIDE;
    private static final int NOT = SkittleGentry.NOT;
    private static final int FULL = SkittleGentry.FULL;
    private static final Due due = new Due();

    private interface Asked {
        int by(int number);
    }

    private interface Call {
        int on(SkittleGentry x);
    }

    private interface Made {
        SkittleGentry anew();
    }

    private record Refusal(String name, int want, Call call) {
    }

    public static void main(String[] args) {
        boundsOfTheCounty();
        boundsOfWhatIsDone();
        boundsOfWhatIsTried();
        boundsOfBookAndImages();
        skittlesThatThereAreNot();
        oneTwice();
        orderOfTwo();
        orderOfThree();
        farBelow();
        refusedChangesNothing();
        refusedChangesNothingWithoutCounty();
        refusedChangesNothingWhenFull();
        due.end();
    }

    private static SkittleGentry nine() {
        return Due.with(Due.NINE);
    }

    private static SkittleGentry allLie() {
        SkittleGentry x = Due.with(Due.LIGHT);
        x.ball(2, 1, 40);
        return x;
    }

    /** The least and the most are taken, one less and one more are refused, and so are the ends of int. */
    private static void bounds(String call, int least, int most, int refusal, Asked asked) {
        due.holds(call + " takes " + least, asked.by(least) > UNKNOWN);
        due.holds(call + " takes " + most, asked.by(most) > UNKNOWN);
        due.is(call + ", " + (least - 1), asked.by(least - 1), refusal);
        if (most < Integer.MAX_VALUE) {
            due.is(call + ", " + (most + 1), asked.by(most + 1), refusal);
            due.is(call + ", the most int", asked.by(Integer.MAX_VALUE), refusal);
        }
        due.is(call + ", the least int", asked.by(Integer.MIN_VALUE), refusal);
    }

    private static void boundsOfTheCounty() {
        due.sentence("One letter (a number 0 .. 255) comes behind THE TEXT: how many it has. OUTSIDE, FULL (240).");
        bounds("feed()", 0, 255, OUTSIDE, v -> new SkittleGentry().feed(v));
        due.sentence("13 how many can be undone (6 to 10: NONE without a COUNTY). OUTSIDE.");
        bounds("told()", 0, 13, OUTSIDE, v -> nine().told(v));
        bounds("told() without a COUNTY", 0, 13, OUTSIDE, v -> new SkittleGentry().told(v));
        due.sentence("7 FIRST of those, 8 what it BEARS. UNKNOWN, OUTSIDE.");
        bounds("skittle(s, 0)", 0, 8, UNKNOWN, v -> nine().skittle(v, 0));
        bounds("skittle(0, what)", 0, 8, OUTSIDE, v -> nine().skittle(0, v));
        due.sentence("Who is on a PLATE (0 .. 8); NONE. UNKNOWN.");
        bounds("plate()", 0, 8, UNKNOWN, v -> nine().plate(v));
        bounds("plate() of two SKITTLES", 0, 8, UNKNOWN, v -> Due.with("g0;s0 1 0;s0 1 0;").plate(v));
        bounds("plate() without a COUNTY", 0, 8, UNKNOWN, v -> new SkittleGentry().plate(v));
    }

    private static void boundsOfWhatIsDone() {
        due.sentence("A BALL is THROWN (line 0 .. 4, slant 0 .. 2, pace 1 .. 40): who FALLS (a SET). OUTSIDE");
        bounds("ball(line, 1, 9)", 0, 4, OUTSIDE, v -> nine().ball(v, 1, 9));
        bounds("ball(2, slant, 9)", 0, 2, OUTSIDE, v -> nine().ball(2, v, 9));
        bounds("ball(2, 1, pace)", 1, 40, OUTSIDE, v -> nine().ball(2, 1, v));
        due.sentence("LIFTED: how many stand. UNKNOWN, NOT: it stands.");
        bounds("lift()", 0, 8, UNKNOWN, v -> allLie().lift(v));
        due.sentence("CHANGED: who is on the first PLATE then (NONE). UNKNOWN.");
        bounds("change(p, 4)", 0, 8, UNKNOWN, v -> nine().change(v, 4));
        bounds("change(4, q)", 0, 8, UNKNOWN, v -> nine().change(4, v));
        bounds("change(p, 4) without a COUNTY", 0, 8, UNKNOWN, v -> new SkittleGentry().change(v, 4));
        due.sentence("CHIPPED (0 .. 9): what CHIP was. UNKNOWN, OUTSIDE.");
        bounds("chip(s, 1)", 0, 8, UNKNOWN, v -> nine().chip(v, 1));
        bounds("chip(0, c)", 0, 9, OUTSIDE, v -> nine().chip(0, v));
        due.sentence("REPLACED: what KIND was. UNKNOWN, NOT: it is a poor relation.");
        bounds("replace()", 0, 8, UNKNOWN, v -> nine().replace(v));
        due.sentence("n times (1 .. 30) BY DRAWS: who stands. OUTSIDE, NOT: no COUNTY.");
        bounds("drift()", 1, 30, OUTSIDE, v -> nine().drift(v));
    }

    private static void boundsOfWhatIsTried() {
        due.sentence("WOULD FALL: what = 0 who, 1 how many ROCK, 2 where the BALL stays (NONE). OUTSIDE");
        bounds("wouldFall(line, 1, 9, 0)", 0, 4, OUTSIDE, v -> nine().wouldFall(v, 1, 9, 0));
        bounds("wouldFall(2, slant, 9, 0)", 0, 2, OUTSIDE, v -> nine().wouldFall(2, v, 9, 0));
        bounds("wouldFall(2, 1, pace, 0)", 1, 40, OUTSIDE, v -> nine().wouldFall(2, 1, v, 0));
        bounds("wouldFall(2, 1, 9, what)", 0, 2, OUTSIDE, v -> nine().wouldFall(2, 1, 9, v));
        due.sentence("BALLS: what = 0 how many, 1 the first; NONE. UNKNOWN, OUTSIDE, NOT: no COUNTY.");
        bounds("balls(set, 0)", 0, 511, UNKNOWN, v -> nine().balls(v, 0));
        bounds("balls(0, what)", 0, 1, OUTSIDE, v -> nine().balls(0, v));
        due.sentence("SPARE; NONE. UNKNOWN, NOT: no COUNTY.");
        bounds("spare(fall, 0)", 0, 511, UNKNOWN, v -> nine().spare(v, 0));
        bounds("spare(0, stand)", 0, 511, UNKNOWN, v -> nine().spare(0, v));
        due.sentence("ALL DOWN: what = 0 how many, 1 the first; NONE. OUTSIDE, NOT: no COUNTY.");
        bounds("allDown()", 0, 1, OUTSIDE, v -> nine().allDown(v));
        due.sentence("MEND: what = 0 the two, 1 how many FALL. OUTSIDE, NOT: no COUNTY.");
        bounds("mend(line, 1, 9, 0)", 0, 4, OUTSIDE, v -> nine().mend(v, 1, 9, 0));
        bounds("mend(2, slant, 9, 0)", 0, 2, OUTSIDE, v -> nine().mend(2, v, 9, 0));
        bounds("mend(2, 1, pace, 0)", 1, 40, OUTSIDE, v -> nine().mend(2, 1, v, 0));
        bounds("mend(2, 1, 9, what)", 0, 1, OUTSIDE, v -> nine().mend(2, 1, 9, v));
        due.sentence("HAND (a SET of LINES). UNKNOWN, NOT: no COUNTY.");
        bounds("hand()", 0, 511, UNKNOWN, v -> nine().hand(v));
        due.sentence("ASK; NONE. OUTSIDE, NOT: no COUNTY.");
        bounds("ask()", 0, 4, OUTSIDE, v -> nine().ask(v));
        due.sentence("CALM: odds of n calm nights (0 .. 60), each by q of a hundred (0 .. 100)");
        bounds("calm(n, 50)", 0, 60, OUTSIDE, v -> new SkittleGentry().calm(v, 50));
        bounds("calm(5, q)", 0, 100, OUTSIDE, v -> new SkittleGentry().calm(5, v));
    }

    private static void boundsOfBookAndImages() {
        due.sentence("An entry behind THE BOOK: how many. UNKNOWN, FULL (15).");
        bounds("write()", 0, 8, UNKNOWN, v -> nine().write(v, true));
        due.sentence("THE SEED becomes v (0 .. 2147483647): what it was. OUTSIDE.");
        bounds("seed()", 0, 2147483647, OUTSIDE, v -> new SkittleGentry().seed(v));
        due.sentence("IMAGE i becomes what is so (nothing can be undone then): 1. UNKNOWN.");
        bounds("keep()", 0, 1, UNKNOWN, v -> new SkittleGentry().keep(v));
        due.sentence("What is so becomes IMAGE i (nothing can be undone then): 1. UNKNOWN, NOT: it was not kept.");
        bounds("goBack()", 0, 1, UNKNOWN, v -> {
            SkittleGentry x = new SkittleGentry();
            x.keep(0);
            x.keep(1);
            return x.goBack(v);
        });
    }

    /** With n SKITTLES there are 0 .. n - 1 alone, and SETS of these alone. */
    private static void skittlesThatThereAreNot() {
        due.sentence("UNKNOWN (a SKITTLE, PLATE, IMAGE that there is not; bits of such");
        for (int n = 1; n <= 9; n++) {
            String text = "g0;" + "s0 1 0;".repeat(n);
            String of = " of " + n;
            bounds("skittle(s, 8)" + of, 0, n - 1, UNKNOWN, v -> Due.with(text).skittle(v, 8));
            bounds("chip(s, 9)" + of, 0, n - 1, UNKNOWN, v -> Due.with(text).chip(v, 9));
            bounds("replace()" + of, 0, n - 1, UNKNOWN, v -> Due.with(text).replace(v));
            bounds("write()" + of, 0, n - 1, UNKNOWN, v -> Due.with(text).write(v, false));
            bounds("lift()" + of, 0, n - 1, UNKNOWN, v -> {
                SkittleGentry x = Due.with(text);
                x.ball(2, 1, 40);
                return x.lift(v);
            });
            int all = (1 << n) - 1;
            bounds("balls(set, 1)" + of, 0, all, UNKNOWN, v -> Due.with(text).balls(v, 1));
            bounds("spare(fall, 0)" + of, 0, all, UNKNOWN, v -> Due.with(text).spare(v, 0));
            bounds("spare(0, stand)" + of, 0, all, UNKNOWN, v -> Due.with(text).spare(0, v));
            bounds("hand()" + of, 0, all, UNKNOWN, v -> Due.with(text).hand(v));
            due.is("one bit too many among others" + of, Due.with(text).hand(1 | 1 << n), UNKNOWN);
        }
        bounds("balls(set, 0) of none", 0, 0, UNKNOWN, v -> Due.with("g0;").balls(v, 0));
        bounds("spare(fall, 0) of none", 0, 0, UNKNOWN, v -> Due.with("g0;").spare(v, 0));
        bounds("spare(0, stand) of none", 0, 0, UNKNOWN, v -> Due.with("g0;").spare(0, v));
        bounds("hand() of none", 0, 0, UNKNOWN, v -> Due.with("g0;").hand(v));
        SkittleGentry bare = Due.with("g0;");
        due.is("skittle(0, 0) of none", bare.skittle(0, 0), UNKNOWN);
        due.is("lift(0) of none", bare.lift(0), UNKNOWN);
        due.is("chip(0, 0) of none", bare.chip(0, 0), UNKNOWN);
        due.is("replace(0) of none", bare.replace(0), UNKNOWN);
        due.is("write(0, true) of none", bare.write(0, true), UNKNOWN);
    }

    private static void oneTwice() {
        due.sentence("one twice, where two are asked");
        for (int p = 0; p < 9; p++) {
            due.is("change(" + p + ", " + p + ")", nine().change(p, p), UNKNOWN);
            due.is("of none, change(" + p + ", " + p + ")", Due.with("g0;").change(p, p), UNKNOWN);
        }
        due.is("without a COUNTY, change(0, 0)", new SkittleGentry().change(0, 0), UNKNOWN);
        due.is("spare() asks for no two SKITTLES", nine().spare(2, 2), SkittleGentry.NONE);
    }

    private static void orderOfTwo() {
        due.sentence("REFUSALS, of several the first in this order");
        SkittleGentry none = new SkittleGentry();
        due.is("OUTSIDE ahead of NOT: ball()", none.ball(0, 0, 0), OUTSIDE);
        due.is("OUTSIDE ahead of NOT: drift()", none.drift(31), OUTSIDE);
        due.is("OUTSIDE ahead of NOT: wouldFall()", none.wouldFall(0, 3, 1, 0), OUTSIDE);
        due.is("OUTSIDE ahead of NOT: wouldFall() what", none.wouldFall(0, 0, 1, 3), OUTSIDE);
        due.is("OUTSIDE ahead of NOT: allDown()", none.allDown(2), OUTSIDE);
        due.is("OUTSIDE ahead of NOT: mend()", none.mend(5, 0, 1, 0), OUTSIDE);
        due.is("OUTSIDE ahead of NOT: mend() what", none.mend(0, 0, 1, 2), OUTSIDE);
        due.is("OUTSIDE ahead of NOT: ask()", none.ask(-1), OUTSIDE);
        due.is("UNKNOWN ahead of NOT: spare() fall", none.spare(1, 0), UNKNOWN);
        due.is("UNKNOWN ahead of NOT: spare() stand", none.spare(0, 1), UNKNOWN);
        due.is("UNKNOWN ahead of NOT: hand()", none.hand(1), UNKNOWN);
        due.is("UNKNOWN ahead of NOT: goBack()", none.goBack(2), UNKNOWN);
        due.is("UNKNOWN ahead of OUTSIDE: skittle()", nine().skittle(9, 9), UNKNOWN);
        due.is("UNKNOWN ahead of OUTSIDE: skittle() without a COUNTY", none.skittle(0, 9), UNKNOWN);
        due.is("UNKNOWN ahead of OUTSIDE: chip()", nine().chip(9, 10), UNKNOWN);
        due.is("UNKNOWN ahead of OUTSIDE: balls()", nine().balls(512, 2), UNKNOWN);
        due.is("UNKNOWN ahead of FULL: write()", fullBook().write(9, true), UNKNOWN);
        due.is("OUTSIDE ahead of FULL: feed(256)", fullText().feed(256), OUTSIDE);
        due.is("OUTSIDE ahead of FULL: feed(-1)", fullText().feed(-1), OUTSIDE);
    }

    private static void orderOfThree() {
        SkittleGentry none = new SkittleGentry();
        due.is("UNKNOWN, OUTSIDE, NOT", none.balls(1, 2), UNKNOWN);
        due.is("OUTSIDE, NOT", none.balls(0, 2), OUTSIDE);
        due.is("NOT", none.balls(0, 1), NOT);
    }

    private static void farBelow() {
        due.sentence("They are far below all that is counted: -1000000001 and on.");
        int[] refusals = {UNKNOWN, OUTSIDE, NOT, FULL};
        for (int i = 0; i < 4; i++) {
            due.is("REFUSAL " + i, refusals[i], -1000000001 - i);
        }
        due.sentence("NONE is -1.");
        due.is("NONE", SkittleGentry.NONE, -1);
    }

    /** An object with something of everything: letters, a BOOK, a SEED, an IMAGE, four to be undone, some that lie. */
    private static SkittleGentry lived() {
        SkittleGentry x = nine();
        x.seed(11);
        x.ball(2, 1, 8);
        x.keep(0);
        x.write(1, false);
        x.write(8, true);
        x.change(0, 8);
        x.chip(3, 7);
        x.replace(4);
        x.lift(0);
        x.feed('g');
        x.feed('4');
        return x;
    }

    private static SkittleGentry fullText() {
        SkittleGentry x = Due.with("g0;");
        Due.feed(x, "g7" + " ".repeat(238));
        return x;
    }

    private static SkittleGentry fullBook() {
        SkittleGentry x = nine();
        for (int i = 0; i < 15; i++) {
            x.write(i % 9, i < 14);
        }
        return x;
    }

    private static void changesNothing(List<Refusal> refusals, Made made) {
        due.sentence("What is refused changes nothing.");
        String now = Look.now(made.anew());
        String hidden = Look.hidden(made.anew());
        for (Refusal r : refusals) {
            SkittleGentry x = made.anew();
            due.is(r.name, r.call.on(x), r.want);
            due.same("what is so behind " + r.name, Look.now(x), now);
            due.same("what is hidden behind " + r.name, Look.hidden(x), hidden);
        }
    }

    private static void refusedChangesNothing() {
        List<Refusal> r = new ArrayList<>();
        r.add(new Refusal("feed(256)", OUTSIDE, x -> x.feed(256)));
        r.add(new Refusal("feed(-1)", OUTSIDE, x -> x.feed(-1)));
        r.add(new Refusal("told(14)", OUTSIDE, x -> x.told(14)));
        r.add(new Refusal("skittle(9, 0)", UNKNOWN, x -> x.skittle(9, 0)));
        r.add(new Refusal("skittle(0, 9)", OUTSIDE, x -> x.skittle(0, 9)));
        r.add(new Refusal("plate(9)", UNKNOWN, x -> x.plate(9)));
        r.add(new Refusal("ball(5, 1, 40)", OUTSIDE, x -> x.ball(5, 1, 40)));
        r.add(new Refusal("ball(2, 3, 40)", OUTSIDE, x -> x.ball(2, 3, 40)));
        r.add(new Refusal("ball(2, 1, 41)", OUTSIDE, x -> x.ball(2, 1, 41)));
        r.add(new Refusal("ball(2, 1, 0)", OUTSIDE, x -> x.ball(2, 1, 0)));
        r.add(new Refusal("lift(9)", UNKNOWN, x -> x.lift(9)));
        r.add(new Refusal("lift(0), which stands", NOT, x -> x.lift(0)));
        r.add(new Refusal("change(3, 9)", UNKNOWN, x -> x.change(3, 9)));
        r.add(new Refusal("change(-1, 3)", UNKNOWN, x -> x.change(-1, 3)));
        r.add(new Refusal("change(3, 3)", UNKNOWN, x -> x.change(3, 3)));
        r.add(new Refusal("chip(9, 5)", UNKNOWN, x -> x.chip(9, 5)));
        r.add(new Refusal("chip(5, 10)", OUTSIDE, x -> x.chip(5, 10)));
        r.add(new Refusal("replace(9)", UNKNOWN, x -> x.replace(9)));
        r.add(new Refusal("replace(6), a poor relation", NOT, x -> x.replace(6)));
        r.add(new Refusal("drift(0)", OUTSIDE, x -> x.drift(0)));
        r.add(new Refusal("drift(31)", OUTSIDE, x -> x.drift(31)));
        r.add(new Refusal("wouldFall(2, 1, 41, 0)", OUTSIDE, x -> x.wouldFall(2, 1, 41, 0)));
        r.add(new Refusal("balls(512, 0)", UNKNOWN, x -> x.balls(512, 0)));
        r.add(new Refusal("spare(512, 0)", UNKNOWN, x -> x.spare(512, 0)));
        r.add(new Refusal("allDown(2)", OUTSIDE, x -> x.allDown(2)));
        r.add(new Refusal("mend(2, 1, 41, 0)", OUTSIDE, x -> x.mend(2, 1, 41, 0)));
        r.add(new Refusal("hand(512)", UNKNOWN, x -> x.hand(512)));
        r.add(new Refusal("ask(5)", OUTSIDE, x -> x.ask(5)));
        r.add(new Refusal("calm(61, 50)", OUTSIDE, x -> x.calm(61, 50)));
        r.add(new Refusal("write(9, true)", UNKNOWN, x -> x.write(9, true)));
        r.add(new Refusal("seed(-1)", OUTSIDE, x -> x.seed(-1)));
        r.add(new Refusal("keep(2)", UNKNOWN, x -> x.keep(2)));
        r.add(new Refusal("keep(-1)", UNKNOWN, x -> x.keep(-1)));
        r.add(new Refusal("goBack(2)", UNKNOWN, x -> x.goBack(2)));
        r.add(new Refusal("goBack(1), not kept", NOT, x -> x.goBack(1)));
        changesNothing(r, RefusalEdgesTest::lived);
    }

    private static void refusedChangesNothingWithoutCounty() {
        List<Refusal> r = new ArrayList<>();
        r.add(new Refusal("ball() of none", NOT, x -> x.ball(2, 1, 9)));
        r.add(new Refusal("setUp() of none", NOT, x -> x.setUp()));
        r.add(new Refusal("lift(0) of none", UNKNOWN, x -> x.lift(0)));
        r.add(new Refusal("chip(0, 0) of none", UNKNOWN, x -> x.chip(0, 0)));
        r.add(new Refusal("replace(0) of none", UNKNOWN, x -> x.replace(0)));
        r.add(new Refusal("drift(1) of none", NOT, x -> x.drift(1)));
        r.add(new Refusal("undo() of none", NOT, x -> x.undo()));
        r.add(new Refusal("wouldFall() of none", NOT, x -> x.wouldFall(2, 1, 9, 0)));
        r.add(new Refusal("balls(0, 0) of none", NOT, x -> x.balls(0, 0)));
        r.add(new Refusal("spare(0, 0) of none", NOT, x -> x.spare(0, 0)));
        r.add(new Refusal("allDown(0) of none", NOT, x -> x.allDown(0)));
        r.add(new Refusal("mend() of none", NOT, x -> x.mend(2, 1, 9, 0)));
        r.add(new Refusal("hand(0) of none", NOT, x -> x.hand(0)));
        r.add(new Refusal("ask(0) of none", NOT, x -> x.ask(0)));
        r.add(new Refusal("write(0, true) of none", UNKNOWN, x -> x.write(0, true)));
        r.add(new Refusal("goBack(0) of none", NOT, x -> x.goBack(0)));
        changesNothing(r, SkittleGentry::new);
        // What was a COUNTY is none again behind an empty text, and refuses alike.
        changesNothing(r, () -> {
            SkittleGentry x = lived();
            x.tear();
            x.county();
            x.county();
            return x;
        });
    }

    private static void refusedChangesNothingWhenFull() {
        changesNothing(List.of(new Refusal("feed() of 241", FULL, x -> x.feed(';'))), RefusalEdgesTest::fullText);
        changesNothing(List.of(new Refusal("write() of 16", FULL, x -> x.write(0, false))),
            RefusalEdgesTest::fullBook);
    }
}
