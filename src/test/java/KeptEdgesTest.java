/** The edges of promises 14, 15 and 24 to 29: draws, what can be undone, THE BOOK, THE SEED, IMAGES. */
public final class KeptEdgesTest {
    private static final int NONE = SkittleGentry.NONE;
    private static final int NOT = SkittleGentry.NOT;
    private static final Due due = new Due();

    public static void main(String[] args) {
        seedGoesRound();
        seedAtItsEnds();
        eachDrawDone();
        changedIfUnlike();
        driftOfNone();
        driftOneAndThirty();
        undoneToTheFirst();
        undoneSixteen();
        undoneAndDoneAgain();
        undoneIsEachThatWasNotRefused();
        undoneIsNotWhatIsRefused();
        undoneLeavesTheSeed();
        undoneBringsAllBack();
        bookIsFull();
        bookTorn();
        wrongEntries();
        bookStaysAsWritten();
        keepEndsUndoing();
        goBackEndsUndoing();
        notKept();
        twoImages();
        imagesKeepAll();
        imageIsNotTheBook();
        imagesWithoutCounty();
        due.end();
    }

    private static long next(long seed) {
        return (seed * 1103515245L + 12345L) % (1L << 31);
    }

    /** What drift(n) is to do, done by the calls for it; answers THE SEED then. */
    private static long byHand(SkittleGentry x, long seed, int n) {
        long at = seed;
        for (int i = 0; i < n; i++) {
            at = next(at);
            int what = (int) (at / 65536 % 4);
            if (what <= 1) {
                long line = next(at);
                long slant = next(line);
                at = next(slant);
                x.ball((int) (line / 65536 % 5), (int) (slant / 65536 % 3), (int) (at / 65536 % 40) + 1);
            } else if (what == 2) {
                x.setUp();
            } else {
                long p = next(at);
                at = next(p);
                if (p / 65536 % 9 != at / 65536 % 9) {
                    x.change((int) (p / 65536 % 9), (int) (at / 65536 % 9));
                }
            }
        }
        return at;
    }

    private static void asByHand(String text, int seed, int n) {
        SkittleGentry x = Due.with(text);
        SkittleGentry hand = Due.with(text);
        x.seed(seed);
        long then = byHand(hand, seed, n);
        String call = "SEED " + seed + ", drift(" + n + ") of '" + text + "'";
        due.is(call, x.drift(n), hand.told(3));
        due.same("what is so behind it", Look.gentry(x), Look.gentry(hand));
        due.is("it is undone at once: " + call, x.told(13), 1);
        due.is("THE SEED behind " + call, x.seed(0), then);
    }

    private static void seedGoesRound() {
        due.sentence("each DRAW it becomes it times 1103515245 and 12345, left over by 2 to the 31");
        // SET UP takes one DRAW alone, so that THE SEED behind it is the very next one.
        int found = 0;
        for (int seed = 2147483647; seed > 2147483647 - 1000; seed--) {
            if (next(seed) / 65536 % 4 == 2) {
                found++;
                SkittleGentry x = Due.with("g0;");
                x.seed(seed);
                x.drift(1);
                due.is("one DRAW from " + seed, x.seed(0), next(seed));
            }
        }
        due.holds("some SEEDS bring just one DRAW", found > 100);
    }

    private static void seedAtItsEnds() {
        due.sentence("THE SEED becomes v (0 .. 2147483647): what it was. OUTSIDE.");
        SkittleGentry x = Due.with(Due.NINE);
        due.is("at first", x.seed(2147483647), 0);
        due.is("the most", x.seed(0), 2147483647);
        due.is("the least", x.seed(1), 0);
        due.is("one less than the least", x.seed(-1), SkittleGentry.OUTSIDE);
        due.is("that changed nothing", x.seed(2147483646), 1);
        due.is("it cannot be undone", x.undo(), NOT);
        for (int seed : new int[] {0, 1, 65535, 65536, 2147418112, 2147483646, 2147483647}) {
            asByHand(Due.NINE, seed, 30);
        }
    }

    private static void eachDrawDone() {
        due.sentence("n times a DRAW of 4: on 0, 1 a BALL of a DRAW of 5, of 3, of 40, and 1, is THROWN; on 2 all are SET UP");
        for (int seed = 0; seed < 60; seed++) {
            asByHand(Due.NINE, seed * 7919, 1 + seed % 30);
            asByHand(Due.LIGHT, seed * 104729, 30 - seed % 30);
            asByHand("g0;s2 20 0;s0 1 0;", seed * 15485863, 30);
        }
    }

    private static void changedIfUnlike() {
        due.sentence("on 3 a DRAW of nine PLATES, of nine: they are CHANGED, if unlike.");
        int alike = 0;
        int unlike = 0;
        for (int seed = 0; seed < 3000; seed++) {
            long what = next(seed);
            long p = next(what);
            long q = next(p);
            if (what / 65536 % 4 == 3) {
                boolean same = p / 65536 % 9 == q / 65536 % 9;
                alike += same ? 1 : 0;
                unlike += same ? 0 : 1;
                if (same || unlike % 20 == 0) {
                    asByHand(Due.LIGHT, seed, 1);
                }
            }
        }
        due.holds("some are alike, some are not", alike > 20 && unlike > 200);
    }

    private static void driftOfNone() {
        due.sentence("n times (1 .. 30) BY DRAWS: who stands. OUTSIDE, NOT: no COUNTY.");
        SkittleGentry none = new SkittleGentry();
        due.is("no COUNTY", none.drift(1), NOT);
        due.is("THE SEED is as it was", none.seed(0), 0);
        asByHand("g9;", 5, 30);
        due.is("no SKITTLES", Due.with("g0;").drift(30), 0);
    }

    private static void driftOneAndThirty() {
        due.sentence("n times (1 .. 30) BY DRAWS: who stands. OUTSIDE, NOT: no COUNTY.");
        SkittleGentry once = Due.with(Due.NINE);
        SkittleGentry often = Due.with(Due.NINE);
        once.seed(4321);
        often.seed(4321);
        for (int i = 0; i < 29; i++) {
            often.drift(1);
        }
        due.is("30 at once, and one by one", once.drift(30), often.drift(1));
        due.same("what is so", Look.gentry(once), Look.gentry(often));
        due.is("one is to be undone", once.told(13), 1);
        due.is("sixteen are to be undone", often.told(13), 16);
        due.is("THE SEED of both", once.seed(0), often.seed(0));
    }

    private static void undoneToTheFirst() {
        due.sentence("The latest is undone: how many more can be. NOT: none.");
        SkittleGentry x = Due.with("g0;s0 9 0;");
        due.is("none at first", x.undo(), NOT);
        x.chip(0, 1);
        x.chip(0, 2);
        due.is("the latest", x.undo(), 1);
        due.is("CHIP", x.skittle(0, 2), 1);
        due.is("the first", x.undo(), 0);
        due.is("CHIP then", x.skittle(0, 2), 0);
        due.is("none any more", x.undo(), NOT);
        due.is("CHIP still", x.skittle(0, 2), 0);
    }

    private static void undoneSixteen() {
        due.sentence("(16 at most are kept, the oldest are lost)");
        for (int done : new int[] {15, 16, 17, 31, 32, 33, 40}) {
            SkittleGentry x = Due.with("g0;s0 9 0;");
            for (int i = 1; i <= done; i++) {
                x.chip(0, i % 10);
            }
            int kept = Math.min(16, done);
            due.is("to be undone of " + done, x.told(13), kept);
            for (int i = 1; i <= kept; i++) {
                due.is("undo() " + i + " of " + done, x.undo(), kept - i);
                due.is("CHIP then", x.skittle(0, 2), (done - i) % 10);
            }
            due.is("one more of " + done, x.undo(), NOT);
            due.is("CHIP stays", x.skittle(0, 2), (done - kept) % 10);
        }
    }

    private static void undoneAndDoneAgain() {
        due.sentence("(16 at most are kept, the oldest are lost)");
        SkittleGentry x = Due.with("g0;s0 9 0;");
        for (int i = 0; i < 20; i++) {
            x.chip(0, 1);
            x.chip(0, 2);
            x.chip(0, 3);
            x.undo();
        }
        // The third chip() of each round came as a 17th or as a 16th, and was undone: 15 are left.
        due.is("told(13)", x.told(13), 15);
        due.is("CHIP", x.skittle(0, 2), 2);
        for (int left = 14; left >= 0; left--) {
            due.is("undo()", x.undo(), left);
            due.is("CHIP", x.skittle(0, 2), left % 2 == 0 ? 1 : 2);
        }
        due.is("none", x.undo(), NOT);
    }

    private static void undoneIsEachThatWasNotRefused() {
        due.sentence("UNDONE: the latest of ball(), setUp(), lift(), change(), chip(), replace(), drift() that was not"
            + " refused");
        SkittleGentry x = Due.with(Due.LIGHT);
        x.setUp();
        due.is("setUp() when none lay", x.told(13), 1);
        x.ball(0, 0, 1);
        due.is("ball() that met nobody", x.told(13), 2);
        x.chip(0, 0);
        due.is("chip() to what it was", x.told(13), 3);
        x.ball(2, 1, 1);
        x.lift(0);
        due.is("lift()", x.told(13), 5);
        x.change(0, 8);
        due.is("change()", x.told(13), 6);
        x.replace(0);
        due.is("replace()", x.told(13), 7);
        x.drift(30);
        due.is("drift(30) is one", x.told(13), 8);
        due.is("ball() that met nobody, undone", x.undo() + x.undo() + x.undo() + x.undo(), 7 + 6 + 5 + 4);
        due.is("THROWS", x.told(4), 2);
        x.undo();
        x.undo();
        x.undo();
        due.is("THROWS then", x.told(4), 0);
        SkittleGentry bare = Due.with("g0;");
        bare.change(7, 8);
        due.is("change() of two empty PLATES", bare.undo(), 0);
    }

    private static void undoneIsNotWhatIsRefused() {
        due.sentence("that was not refused");
        SkittleGentry x = Due.with(Due.LIGHT);
        x.ball(2, 1, 0);
        x.lift(0);
        x.change(0, 0);
        x.chip(0, 10);
        x.replace(9);
        x.drift(0);
        x.undo();
        due.is("refused ones", x.told(13), 0);
        due.sentence("UNDONE: the latest of ball(), setUp(), lift(), change(), chip(), replace(), drift()");
        x.write(0, true);
        x.tear();
        x.seed(5);
        x.feed('g');
        x.county();
        x.wouldFall(2, 1, 9, 0);
        due.is("others", x.told(13), 0);
        x.chip(0, 1);
        x.chip(0, 10);
        x.write(0, true);
        due.is("the latest that was not refused", x.undo() + x.skittle(0, 2), 0);
        due.is("THE BOOK stays", x.told(12), 1);
    }

    private static void undoneLeavesTheSeed() {
        due.sentence("all of section 2 is as ahead of it; THE SEED stays.");
        SkittleGentry x = Due.with(Due.NINE);
        x.seed(9);
        x.drift(1);
        x.undo();
        int then = x.seed(0);
        due.holds("it is not what it was ahead of drift()", then != 9);
        x.chip(0, 1);
        x.seed(77);
        x.undo();
        due.is("seed() is not undone", x.seed(0), 77);
    }

    private static void undoneBringsAllBack() {
        due.sentence("all of section 2 is as ahead of it; THE SEED stays.");
        SkittleGentry x = Due.with(Due.NINE);
        x.ball(2, 1, 8);
        String ahead = Look.gentry(x);
        x.drift(30);
        x.undo();
        due.same("ahead of drift()", Look.gentry(x), ahead);
        due.is("what is tried, too", x.told(10), afterOneBall().told(10));
        due.is("and the row by which all lie", x.allDown(1), afterOneBall().allDown(1));
        for (int s = 0; s < 9; s += 8) {
            undoneOf(s);
        }
    }

    /** Each thing of one SKITTLE, of the first and of the last, is another and comes back. */
    private static void undoneOf(int s) {
        SkittleGentry x = Due.with(Due.LIGHT);
        String ahead = Look.gentry(x);
        x.ball(2, 1, 40);
        x.setUp();
        x.chip(s, 9);
        x.replace(s);
        x.change(s, 4);
        x.ball(2, 1, 40);
        due.holds("all of SKITTLE " + s + " is another", x.skittle(s, 0) == 3 && x.skittle(s, 2) == 9
            && x.skittle(s, 3) == 4 && x.skittle(s, 4) == 0 && x.skittle(s, 6) == 1);
        for (int left = 5; left >= 0; left--) {
            due.is("undo()", x.undo(), left);
        }
        due.same("all of SKITTLE " + s, Look.gentry(x), ahead);
    }

    private static SkittleGentry afterOneBall() {
        SkittleGentry x = Due.with(Due.NINE);
        x.ball(2, 1, 8);
        return x;
    }

    private static void bookIsFull() {
        due.sentence("An entry behind THE BOOK: how many. UNKNOWN, FULL (15).");
        SkittleGentry x = Due.with(Due.LIGHT);
        for (int n = 1; n <= 15; n++) {
            due.is("entry " + n, x.write(n % 9, n < 15), n);
        }
        due.is("a 16th", x.write(0, false), SkittleGentry.FULL);
        due.is("a 16th, UNKNOWN", x.write(9, false), SkittleGentry.UNKNOWN);
        due.is("told(12)", x.told(12), 15);
        due.is("the last one is otherwise", x.judge(), 14);
        due.is("tear() of 15", x.tear(), 15);
        due.is("entry 1 again", x.write(0, true), 1);
        due.is("no COUNTY", new SkittleGentry().write(0, true), SkittleGentry.UNKNOWN);
    }

    private static void bookTorn() {
        due.sentence("THE BOOK is empty: how many entries it had.");
        SkittleGentry x = Due.with(Due.LIGHT);
        due.is("none", x.tear(), 0);
        x.write(0, false);
        due.is("one", x.tear(), 1);
        due.is("none again", x.tear(), 0);
        due.is("told(12)", x.told(12), 0);
        due.is("judge()", x.judge(), NONE);
        due.is("without a COUNTY", new SkittleGentry().tear(), 0);
    }

    private static void wrongEntries() {
        due.sentence("THE BOOK (15 at most) tells who stands: WRONG: the first that is otherwise now; NONE.");
        SkittleGentry x = Due.with(Due.LIGHT);
        due.is("no entry", x.judge(), NONE);
        due.is("no COUNTY", new SkittleGentry().judge(), NONE);
        x.write(8, true);
        due.is("as it is", x.judge(), NONE);
        x.write(8, false);
        due.is("the second is otherwise", x.judge(), 1);
        x.ball(2, 1, 40);
        due.is("the first is otherwise now", x.judge(), 0);
        x.lift(8);
        due.is("it stands again", x.judge(), 1);
        x.tear();
        x.write(8, true);
        x.write(0, false);
        due.is("both as it is", x.judge(), NONE);
        x.setUp();
        due.is("0 stands now", x.judge(), 1);
    }

    private static void bookStaysAsWritten() {
        due.sentence("An entry behind THE BOOK: how many. UNKNOWN, FULL (15).");
        SkittleGentry x = Due.with(Due.LIGHT);
        x.write(0, false);
        x.ball(2, 1, 1);
        due.is("as it is now", x.judge(), NONE);
        x.undo();
        due.is("as it is again", x.judge(), 0);
        x.change(0, 5);
        due.is("it tells of a SKITTLE, not of a PLATE", x.judge(), 0);
        x.ball(4, 1, 1);
        due.is("which lies on another PLATE", x.judge(), NONE);
    }

    private static void keepEndsUndoing() {
        due.sentence("IMAGE i becomes what is so (nothing can be undone then): 1. UNKNOWN.");
        for (int i = 0; i <= 1; i++) {
            SkittleGentry x = Due.with("g0;s0 9 0;");
            x.chip(0, 1);
            x.chip(0, 2);
            due.is("keep(" + i + ")", x.keep(i), 1);
            due.is("told(13)", x.told(13), 0);
            due.is("undo()", x.undo(), NOT);
            due.is("CHIP", x.skittle(0, 2), 2);
            x.chip(0, 3);
            due.is("what is done then can be undone", x.undo(), 0);
            due.is("down to what was kept", x.skittle(0, 2), 2);
            due.is("and no further", x.undo(), NOT);
        }
    }

    private static void goBackEndsUndoing() {
        due.sentence("What is so becomes IMAGE i (nothing can be undone then): 1. UNKNOWN, NOT: it was not kept.");
        SkittleGentry x = Due.with("g0;s0 9 0;");
        x.keep(0);
        x.chip(0, 1);
        x.chip(0, 2);
        due.is("goBack(0)", x.goBack(0), 1);
        due.is("told(13)", x.told(13), 0);
        due.is("undo()", x.undo(), NOT);
        due.is("CHIP", x.skittle(0, 2), 0);
        x.chip(0, 5);
        due.is("what is done then can be undone", x.undo(), 0);
        due.is("CHIP again", x.skittle(0, 2), 0);
    }

    private static void notKept() {
        due.sentence("NOT: it was not kept.");
        SkittleGentry x = Due.with(Due.NINE);
        due.is("goBack(0)", x.goBack(0), NOT);
        due.is("goBack(1)", x.goBack(1), NOT);
        x.keep(1);
        due.is("goBack(0) when 1 is kept", x.goBack(0), NOT);
        due.is("goBack(1) when it is kept", x.goBack(1), 1);
        x.keep(0);
        due.is("goBack(0) when it is kept", x.goBack(0), 1);
        Due.feed(x, "x");
        x.county();
        due.is("goBack(0) behind a FAULT", x.goBack(0), 1);
        x.county();
        due.is("goBack(0) behind county() of nothing", x.goBack(0), NOT);
        due.is("goBack(1) behind county() of nothing", x.goBack(1), NOT);
    }

    private static void twoImages() {
        due.sentence("IMAGES 0, 1 keep all of section 2, THE SEED.");
        SkittleGentry x = Due.with("g0;s0 9 0;");
        x.seed(100);
        x.keep(0);
        x.chip(0, 1);
        x.seed(101);
        x.keep(1);
        x.chip(0, 2);
        x.seed(102);
        x.goBack(0);
        due.is("0", x.skittle(0, 2), 0);
        due.is("THE SEED of 0", x.seed(103), 100);
        x.goBack(1);
        due.is("1", x.skittle(0, 2), 1);
        due.is("THE SEED of 1", x.seed(104), 101);
        x.chip(0, 7);
        x.keep(0);
        x.goBack(1);
        due.is("1 is kept still", x.skittle(0, 2), 1);
        x.goBack(0);
        due.is("0 is another", x.skittle(0, 2), 7);
        due.is("THE SEED of 0 is another", x.seed(0), 104);
        x.chip(0, 8);
        x.goBack(0);
        x.goBack(0);
        due.is("0 again and again", x.skittle(0, 2), 7);
    }

    private static void imagesKeepAll() {
        due.sentence("IMAGES 0, 1 keep all of section 2, THE SEED.");
        SkittleGentry x = Due.with(Due.NINE);
        x.ball(2, 1, 8);
        x.change(0, 8);
        x.replace(1);
        x.chip(2, 9);
        String kept = Look.gentry(x);
        x.keep(1);
        x.drift(30);
        x.replace(0);
        x.chip(2, 0);
        x.setUp();
        x.ball(2, 1, 40);
        x.goBack(1);
        due.same("what is so", Look.gentry(x), kept);
        SkittleGentry last = Due.with(Due.LIGHT);
        kept = Look.gentry(last);
        last.keep(0);
        last.ball(2, 1, 40);
        last.chip(8, 9);
        last.replace(8);
        last.change(8, 0);
        last.goBack(0);
        due.same("the last SKITTLE", Look.gentry(last), kept);
        SkittleGentry floored = Due.with(Due.LIGHT);
        floored.ball(2, 1, 40);
        floored.keep(0);
        floored.setUp();
        floored.ball(2, 1, 40);
        due.is("FLOORERS", floored.told(5), 2);
        floored.setUp();
        due.is("FIRM ahead of goBack()", floored.told(10), 240);
        due.is("ALL DOWN ahead of goBack()", floored.allDown(0), 1);
        floored.goBack(0);
        due.is("FLOORERS as they were kept", floored.told(5), 1);
        due.is("THROWS as they were kept", floored.told(4), 1);
        due.is("what is tried, too", floored.told(10), 600);
        due.is("and the row by which all lie", floored.allDown(0), 0);
    }

    private static void imageIsNotTheBook() {
        due.sentence("IMAGES 0, 1 keep all of section 2, THE SEED.");
        SkittleGentry x = Due.with(Due.LIGHT);
        x.write(0, false);
        x.feed('g');
        x.keep(0);
        x.write(1, true);
        x.feed('5');
        x.goBack(0);
        due.is("entries", x.told(12), 2);
        due.is("letters", x.told(2), 2);
        x.tear();
        x.goBack(0);
        due.is("torn it stays", x.told(12), 0);
    }

    private static void imagesWithoutCounty() {
        due.sentence("IMAGE i becomes what is so (nothing can be undone then): 1. UNKNOWN.");
        SkittleGentry x = new SkittleGentry();
        x.change(0, 1);
        due.is("keep(0) without a COUNTY", x.keep(0), 1);
        due.is("told(13)", x.told(13), 0);
        x.seed(5);
        due.is("goBack(0) without a COUNTY", x.goBack(0), 1);
        due.is("THE SEED", x.seed(0), 0);
        due.is("still no COUNTY", x.told(0), NONE);
    }
}
