/** The edges of section 3 and of promises 5, 6 and 16 to 23: what is tried from now, and what is told of all BALLS. */
public final class TriedEdgesTest {
    private static final int NONE = SkittleGentry.NONE;
    private static final Due due = new Due();

    public static void main(String[] args) {
        nothingChanges();
        ballsAsNumbers();
        wouldFall();
        balls();
        ballsWithNobody();
        spareOfNobody();
        sparePace();
        spareOfLikeOnes();
        spareByNone();
        allDownOfNone();
        allDownByOneOrMore();
        allDownLeastNumber();
        worst();
        safest();
        safestStands();
        mendTwo();
        mendOfLikeOnes();
        mendEmptyPlates();
        hand();
        ask();
        askOfLikeOnes();
        askByNone();
        first();
        talk();
        firm();
        calm();
        due.end();
    }

    private static SkittleGentry alone(int weight, int plate) {
        SkittleGentry x = Due.with("g0;s0 " + weight + " 0;");
        if (plate != 0) {
            x.change(0, plate);
        }
        return x;
    }

    private static SkittleGentry allLie() {
        SkittleGentry x = Due.with(Due.LIGHT);
        x.ball(2, 1, 40);
        return x;
    }

    private static SkittleGentry lived() {
        SkittleGentry x = Due.with(Due.NINE);
        x.seed(11);
        x.keep(0);
        x.ball(1, 1, 8);
        x.write(1, false);
        x.change(0, 8);
        x.feed('g');
        return x;
    }

    private static void nothingChanges() {
        due.sentence("TRIED from now; nothing changes by it.");
        SkittleGentry x = lived();
        for (int pace = 1; pace <= 40; pace += 13) {
            for (int what = 0; what <= 2; what++) {
                x.wouldFall(2, 1, pace, what);
                x.mend(2, 1, pace, what);
            }
        }
        for (int what = 0; what <= 1; what++) {
            x.balls(1, what);
            x.allDown(what);
        }
        x.spare(1, 2);
        x.hand(1);
        x.ask(2);
        x.calm(60, 99);
        x.judge();
        due.same("what is so", Look.now(x), Look.now(lived()));
        due.same("what is hidden", Look.hidden(x), Look.hidden(lived()));
    }

    private static void ballsAsNumbers() {
        due.sentence("A BALL as a number: 1000 times LINE, 100 times SLANT, and PACE.");
        due.is("LINE 0, SLANT 0, PACE 1", Due.with("g0;").balls(0, 1), 1);
        due.is("LINE 0, SLANT 1, PACE 1", alone(1, 3).balls(1, 1), 101);
        due.is("LINE 0, SLANT 2, PACE 20", alone(20, 4).balls(1, 1), 220);
        due.is("LINE 2, SLANT 0, PACE 1", alone(1, 0).balls(1, 1), 2001);
        due.is("LINE 2, SLANT 2, PACE 20", alone(20, 5).balls(1, 1), 2220);
        SkittleGentry far = Due.with("g9;s0 20 0;");
        far.change(0, 8);
        due.is("LINE 2, SLANT 1, PACE 32", far.balls(1, 1), 2132);
        // On SLANT 0 the one on PLATE 2 is struck with half of PACE, and needs all of it.
        SkittleGentry last = Due.with("g0;s0 20 0;s0 20 0;");
        last.change(1, 2);
        due.is("LINE 2, SLANT 0, PACE 40", last.balls(3, 1), 2040);
        // 5 FALLS alone when it is HIT with just 3 of 5: by less it stands, by more it takes 7.
        due.is("LINE 4, SLANT 1, PACE 5", Due.with(Due.NINE).balls(32, 1), 4105);
    }

    private static void wouldFall() {
        due.sentence("WOULD FALL: by a BALL (a SET); how many ROCK; where it stays (a ROW; NONE: it goes through).");
        SkittleGentry bare = Due.with("g0;");
        due.is("of no SKITTLES, who", bare.wouldFall(2, 1, 40, 0), 0);
        due.is("of no SKITTLES, how many", bare.wouldFall(2, 1, 40, 1), 0);
        due.is("of no SKITTLES, where", bare.wouldFall(2, 1, 40, 2), NONE);
        due.is("all of nine", Due.with(Due.LIGHT).wouldFall(2, 1, 40, 0), 511);
        due.is("the last one alone", alone(1, 8).wouldFall(2, 1, 1, 0), 1);
        // One may ROCK by two others and by the BALL: each time counts.
        SkittleGentry x = Due.with("g0;s0 1 0;s0 1 0;s0 1 0;s0 1 0;s0 20 0;");
        due.is("thrice", x.wouldFall(2, 1, 4, 1), 3);
        due.is("it stays in ROW 2", x.wouldFall(2, 1, 4, 2), 2);
        due.is("it stays in ROW 0", alone(20, 0).wouldFall(2, 1, 19, 2), 0);
        due.is("it stays in ROW 4", alone(20, 8).wouldFall(2, 1, 19, 2), 4);
    }

    private static void balls() {
        due.sentence("BALLS by which just a told SET FALLS: how many; the first (rising); NONE.");
        due.is("by none: how many", Due.with(Due.NINE).balls(1, 0), 0);
        due.is("by none: the first", Due.with(Due.NINE).balls(1, 1), NONE);
        for (int b = 1; b <= 20; b++) {
            SkittleGentry x = alone(b, 4);
            due.is("BEARS " + b + ", in the middle", x.balls(1, 0), 3 * (41 - b));
            due.is("BEARS " + b + ", the first", x.balls(1, 1), 200 + b);
            due.is("BEARS " + b + ", by which none FALLS", x.balls(0, 0), 600 - 3 * (41 - b));
        }
        // Just the told ones: more than these, or fewer, do not count.
        SkittleGentry two = Due.with("g0;s0 1 0;s0 1 0;");
        due.is("0 without 1", two.balls(1, 0), 3);
        due.is("the first of these", two.balls(1, 1), 2001);
        due.is("1 without 0", two.balls(2, 0), 80);
        due.is("the first of these", two.balls(2, 1), 201);
        due.is("both", two.balls(3, 0), 117);
        due.is("neither", two.balls(0, 0), 400);
    }

    private static void ballsWithNobody() {
        due.sentence("BALLS by which just a told SET FALLS: how many; the first (rising); NONE.");
        SkittleGentry x = allLie();
        due.is("all BALLS", x.balls(0, 0), 600);
        due.is("the first of all", x.balls(0, 1), 1);
        due.is("who lies cannot FALL", x.balls(511, 0), 0);
        due.is("nor by a first one", x.balls(256, 1), NONE);
        due.is("of no SKITTLES", Due.with("g9;").balls(0, 0), 600);
    }

    private static void spareOfNobody() {
        due.sentence("SPARE: of BALLS by which all of a SET FALL, and none of another one, the one of least PACE");
        SkittleGentry x = Due.with(Due.LIGHT);
        due.is("nobody, and nobody", x.spare(0, 0), 1);
        due.is("nobody, and all stand", x.spare(0, 511), 1);
        due.is("all, and nobody", x.spare(511, 0), 2108);
        due.is("of no SKITTLES", Due.with("g0;").spare(0, 0), 1);
        due.is("others may FALL", x.spare(1, 0), 2001);
        due.is("8, but not 0: 7 takes it, HIT with 2 of 3", x.spare(256, 1), 203);
    }

    private static void sparePace() {
        due.sentence("the one of least PACE; of like ones the first (as a number)");
        // 2016 is less than 2108 as a number, but its PACE is more.
        SkittleGentry x = Due.with(Due.LIGHT);
        due.is("the first by which all FALL", x.balls(511, 1), 2016);
        due.is("the one of least PACE", x.spare(511, 0), 2108);
        due.is("PACE 40 is needed", Due.with(Due.NINE).spare(511, 0), 2140);
        due.is("the first and the last one", x.spare(256 | 1, 0), 2103);
        due.is("PACE 1 is enough", x.spare(8, 0), 101);
    }

    private static void spareOfLikeOnes() {
        due.sentence("of like ones the first (as a number)");
        for (int b = 1; b <= 20; b++) {
            due.is("in the middle, BEARS " + b, alone(b, 4).spare(1, 0), 200 + b);
            due.is("in front, BEARS " + b, alone(b, 0).spare(1, 0), 2000 + b);
            due.is("on PLATE 5, BEARS " + b, alone(b, 5).spare(1, 0), 2200 + b);
        }
    }

    private static void spareByNone() {
        due.sentence("SPARE; NONE. UNKNOWN, NOT: no COUNTY.");
        SkittleGentry x = Due.with(Due.LIGHT);
        due.is("the same one in both", x.spare(1, 1), NONE);
        due.is("all in both", x.spare(511, 511), NONE);
        due.is("one that lies", allLie().spare(1, 0), NONE);
        due.is("one that lies does not FALL", allLie().spare(0, 1), 1);
        due.is("nobody, when all lie", allLie().spare(0, 511), 1);
        due.is("none is so gentle", Due.with(Due.NINE).spare(1, 6), NONE);
    }

    private static void allDownOfNone() {
        due.sentence("the first of such a row (the least number; NONE: none is needed)");
        for (SkittleGentry x : new SkittleGentry[] {Due.with("g0;"), Due.with("g9;"), allLie()}) {
            due.is("how many", x.allDown(0), 0);
            due.is("the first", x.allDown(1), NONE);
        }
        SkittleGentry x = allLie();
        x.lift(8);
        due.is("one that stands again: how many", x.allDown(0), 1);
        due.is("one that stands again: the first", x.allDown(1), 2101);
        x.undo();
        due.is("undone: none is needed", x.allDown(0), 0);
    }

    private static void allDownByOneOrMore() {
        due.sentence("ALL DOWN: the fewest BALLS, one behind the other, by which all that stand FALL: how many");
        due.is("all by one", Due.with(Due.LIGHT).allDown(0), 1);
        due.is("one of them is 2016", Due.with(Due.LIGHT).allDown(1), 2016);
        // Heavy ones on PLATES that no BALL joins: 3, 5 (ROW 2, COLUMNS 0, 4); 8 joins neither.
        SkittleGentry two = Due.with("g0;s0 20 0;s0 20 0;");
        two.change(0, 3);
        two.change(1, 5);
        due.is("two apart", two.allDown(0), 2);
        SkittleGentry three = Due.with("g0;s0 20 0;s0 20 0;s0 20 0;");
        three.change(0, 3);
        three.change(1, 5);
        three.change(2, 8);
        due.is("three apart", three.allDown(0), 3);
        due.is("the first of them", three.allDown(1), 120);
        three.ball(0, 1, 20);
        due.is("one is down", three.allDown(0), 2);
        due.is("the first behind it", three.allDown(1), 2120);
        three.ball(2, 1, 20);
        due.is("two are down", three.allDown(0), 1);
        due.is("the last one", three.allDown(1), 2220);
        three.ball(2, 2, 20);
        due.is("three are down", three.allDown(0), 0);
        // Nine as heavy as can be, with the most drag: by some row they all lie.
        SkittleGentry heavy = Due.with("g9;s2 20 0;" + "s0 20 0;".repeat(8));
        for (int left = heavy.allDown(0); left > 0; left--) {
            int first = heavy.allDown(1);
            heavy.ball(first / 1000, first / 100 % 10, first % 100);
            due.is("one less behind the first of the row", heavy.allDown(0), left - 1);
        }
        due.is("all lie", heavy.told(3), 0);
    }

    private static void allDownLeastNumber() {
        due.sentence("the first of such a row (the least number");
        // The BALL at PLATE 3 comes first as a number, whichever SKITTLE is there, and with the least PACE that does.
        SkittleGentry x = Due.with("g0;s0 7 0;s0 4 0;");
        x.change(0, 3);
        x.change(1, 5);
        due.is("7 on PLATE 3", x.allDown(1), 107);
        x.change(3, 5);
        due.is("4 on PLATE 3", x.allDown(1), 104);
        // 101 is less than 2016, but what begins with it takes more BALLS.
        due.is("of a row of the fewest alone", Due.with(Due.LIGHT).allDown(1), 2016);
        due.is("the last PACE alone is enough", Due.with(Due.NINE).allDown(1), 2140);
        // In the middle it FALLS by LINES 0, 2, 4.
        due.is("of like ones the least", alone(9, 4).allDown(1), 209);
    }

    private static void worst() {
        due.sentence("WORST: the BALL by which most FALL; of like ones the first; how many.");
        due.is("all FALL by some: the first", Due.with(Due.LIGHT).told(6), 2016);
        due.is("all FALL by some: how many", Due.with(Due.LIGHT).told(7), 9);
        due.is("the last PACE alone", Due.with(Due.NINE).told(6), 2140);
        for (int b = 1; b <= 20; b++) {
            due.is("one that BEARS " + b, alone(b, 4).told(6), 200 + b);
            due.is("how many of one", alone(b, 4).told(7), 1);
        }
        due.is("nobody stands: the first of all", allLie().told(6), 1);
        due.is("nobody stands: how many", allLie().told(7), 0);
        due.is("no SKITTLES: the first of all", Due.with("g0;").told(6), 1);
        due.is("no SKITTLES: how many", Due.with("g0;").told(7), 0);
    }

    private static void safest() {
        due.sentence("SAFEST: the SKITTLE that stands and FALLS by fewest of all BALLS; of like ones the least");
        due.is("alone", alone(5, 0).told(8), 0);
        due.is("by how many", alone(5, 0).told(9), 3 * 36);
        // PLATES 3 and 5 are alike: two BALLS' ways each.
        SkittleGentry x = Due.with("g0;s0 5 0;s0 5 0;");
        x.change(0, 5);
        x.change(1, 3);
        due.is("of like ones the least", x.told(8), 0);
        due.is("by how many of like ones", x.told(9), 2 * 36);
        x.chip(0, 1);
        due.is("the other one is safer", x.told(8), 1);
        due.is("by how many it FALLS", x.told(9), 2 * 36);
        due.is("the last of nine", Due.with(Due.NINE).told(8), 8);
    }

    private static void safestStands() {
        due.sentence("by how many; NONE: none stands.");
        SkittleGentry x = Due.with("g0;s0 1 0;s0 20 0;");
        due.is("0 lies", x.ball(2, 1, 1), 1);
        due.is("who lies is not safe", x.told(8), 1);
        due.is("by how many", x.told(9), 3 * 21);
        due.is("all lie", allLie().told(8), NONE);
        due.is("all lie, by how many", allLie().told(9), NONE);
        due.is("no SKITTLES", Due.with("g0;").told(8), NONE);
        due.is("no SKITTLES, by how many", Due.with("g0;").told(9), NONE);
    }

    /** What mend() answers is what comes out when each two PLATES are CHANGED, tried and undone. */
    private static void mendIs(String text, int line, int slant, int pace, int want) {
        SkittleGentry x = Due.with(text);
        int best = NONE;
        int fewest = 10;
        for (int p = 0; p < 9; p++) {
            for (int q = p + 1; q < 9; q++) {
                x.change(p, q);
                int n = Integer.bitCount(x.wouldFall(line, slant, pace, 0));
                x.undo();
                if (n < fewest) {
                    fewest = n;
                    best = 10 * p + q;
                }
            }
        }
        due.is("the two of '" + text + "'", x.mend(line, slant, pace, 0), want);
        due.is("the two, by trying", best, want);
        due.is("how many of '" + text + "'", x.mend(line, slant, pace, 1), fewest);
    }

    private static void mendTwo() {
        due.sentence("MEND: two PLATES that, CHANGED, let fewest FALL by a told BALL (10 times the lesser and the other)");
        mendIs("g4;s0 2 0;s0 2 0;s0 20 0;s0 3 0;s0 1 0;s2 3 0;s2 6 0;s0 3 0;s0 6 0;", 2, 0, 33, 78);
        mendIs("g2;s0 4 0;s0 5 0;s0 4 0;s0 5 0;s0 3 0;s0 2 0;s0 6 0;s0 2 0;s2 20 0;", 3, 1, 40, 68);
        mendIs(Due.NINE, 2, 1, 40, 6);
        mendIs(Due.NINE, 0, 2, 20, 18);
        mendIs("g0;s0 5 0;s2 5 0;", 2, 1, 6, 1);
    }

    private static void mendOfLikeOnes() {
        due.sentence("of like ones the least; how many FALL then.");
        mendIs(Due.LIGHT, 2, 1, 40, 1);
        mendIs(Due.LIGHT, 0, 0, 1, 1);
        due.is("all FALL anyway", Due.with(Due.LIGHT).mend(2, 1, 40, 1), 9);
        due.is("none FALLS anyway", Due.with(Due.LIGHT).mend(0, 0, 1, 1), 0);
        due.is("all lie: the two", allLie().mend(2, 1, 40, 0), 1);
        due.is("all lie: how many", allLie().mend(2, 1, 40, 1), 0);
    }

    private static void mendEmptyPlates() {
        due.sentence("CHANGED: SKITTLES of two PLATES change places (a PLATE may be empty).");
        mendIs("g0;s0 1 0;", 2, 1, 40, 1);
        mendIs("g0;", 2, 1, 40, 1);
        due.is("no SKITTLES: how many", Due.with("g0;").mend(2, 1, 40, 1), 0);
        // On PLATE 8 it is best brought to the first PLATE that the BALL does not meet.
        due.is("from the last PLATE", alone(1, 8).mend(2, 1, 40, 0), 18);
        due.is("it need not be CHANGED", alone(1, 8).mend(1, 1, 40, 0), 1);
        // Two must be CHANGED: where it stands well, nothing better than two that do not matter comes of it.
        due.is("on PLATE 1, away from the BALL", alone(1, 1).mend(2, 1, 40, 0), 2);
    }

    private static void hand() {
        due.sentence("HAND: LINES (a SET of LINES) of BALLS by which just a told SET FALLS.");
        due.is("by none of them", Due.with(Due.NINE).hand(1), 0);
        due.is("by each of them", Due.with(Due.NINE).hand(0), 31);
        int[] lines = {4, 2 | 1 | 4, 8 | 16 | 4, 1 | 4, 4 | 1 | 16, 16 | 4, 2 | 16, 8 | 1, 4};
        for (int p = 0; p < 9; p++) {
            due.is("alone on PLATE " + p, alone(1, p).hand(1), lines[p]);
            due.is("alone on PLATE " + p + ", it stands", alone(2, p).hand(0), 31);
        }
        due.is("all lie", allLie().hand(0), 31);
        due.is("all lie, one FALLS", allLie().hand(1), 0);
        due.is("LINE 4 alone", Due.with(Due.NINE).hand(32), 16);
        // It FALLS by each BALL of LINE 2, so nobody FALLS by the other LINES alone.
        due.is("each BALL of a LINE", alone(1, 0).hand(0), 31 - 4);
    }

    private static void ask() {
        due.sentence("ASK: the SKITTLE by which, as it FALLS or not, all BALLS of one LINE are told apart best");
        due.is("LINE 0", Due.with(Due.NINE).ask(0), 3);
        due.is("LINE 4", Due.with(Due.NINE).ask(4), 7);
        // It FALLS by all but three of 120, or by 19 of 40 on each SLANT: either parts them.
        due.is("it FALLS by most", alone(2, 0).ask(2), 0);
        due.is("it FALLS by few", Due.with("g0;s2 20 0;").ask(2), 0);
        // 0 FALLS by 114 of 120; 1 by 29 (HIT by the BALL, too), 21, 21 on the SLANTS: 71, so no more are alike.
        due.sentence("the greatest part that is alike is least");
        due.is("the one that parts them best", Due.with("g0;s0 3 0;s0 10 0;").ask(2), 1);
        due.is("LINE 2 of nine", Due.with(Due.NINE).ask(2), 4);
    }

    private static void askOfLikeOnes() {
        due.sentence("of like ones the least; NONE: none parts them.");
        // 0 always FALLS; 1 and 2 are struck alike, and each is HIT by the BALL on one SLANT.
        due.is("of like ones the least", Due.with("g0;s0 1 0;s0 9 0;s0 9 0;").ask(2), 1);
        SkittleGentry x = Due.with("g0;s0 4 0;s0 4 0;");
        x.change(0, 5);
        x.change(1, 3);
        due.is("on PLATES 3 and 5", x.ask(2), 0);
        due.is("from LINE 0 the one alone", x.ask(0), 1);
        due.is("from LINE 4 the other alone", x.ask(4), 0);
        // The one on PLATE 1 FALLS by 40 of 120, the one on PLATE 4 by 33, 25, 22: 80. The like parts are 80 each.
        SkittleGentry few = Due.with("g0;s0 1 0;s0 8 0;s0 19 0;");
        few.change(0, 1);
        few.change(0, 4);
        due.is("80 that stand, as many as 80 that FALL", few.ask(2), 0);
        SkittleGentry many = Due.with("g0;s0 8 0;s0 1 0;s0 19 0;");
        many.change(0, 4);
        due.is("80 that FALL, as many as 80 that stand", many.ask(2), 0);
    }

    private static void askByNone() {
        due.sentence("ASK; NONE. OUTSIDE, NOT: no COUNTY.");
        due.is("it FALLS by all", alone(1, 0).ask(2), NONE);
        for (int line : new int[] {0, 1, 3, 4}) {
            due.is("it FALLS by none of LINE " + line, alone(1, 0).ask(line), NONE);
        }
        for (int line = 0; line <= 4; line++) {
            due.is("all lie, LINE " + line, allLie().ask(line), NONE);
            due.is("no SKITTLES, LINE " + line, Due.with("g0;").ask(line), NONE);
        }
        due.is("no COUNTY", new SkittleGentry().ask(0), SkittleGentry.NOT);
    }

    /** Each one takes the one ahead of it, so that eight steps lead from 0 to 8: there can be no more. */
    private static void first() {
        due.sentence("FIRST of a SKITTLE: by whom it was TAKEN, by whom that one was, and so on, nine times at most");
        SkittleGentry x = Due.with(Due.LIGHT);
        for (int s = 0; s < 9; s++) {
            due.is("at first itself: " + s, x.skittle(s, 7), s);
        }
        x.ball(2, 1, 40);
        for (int s = 0; s < 8; s++) {
            x.lift(s);
            x.lift(s + 1);
            bring(x, s + 1, 0);
            bring(x, s, 1);
            due.is(s + 1 + " takes " + s, x.ball(2, 1, 2), 1 << s | 1 << s + 1);
            due.is(s + " was TAKEN", x.skittle(s, 6), s + 1);
            due.is("FIRST of 0", x.skittle(0, 7), s + 1);
        }
        due.sentence("to one that was TAKEN by NONE (itself, if it was)");
        for (int s = 0; s < 9; s++) {
            due.is("FIRST of " + s, x.skittle(s, 7), 8);
        }
        x.lift(4);
        bring(x, 4, 0);
        x.ball(2, 1, 1);
        due.is("4 FELL by a BALL: FIRST of 0", x.skittle(0, 7), 4);
        due.is("FIRST of 4 itself", x.skittle(4, 7), 4);
        due.is("FIRST of 5 is what it was", x.skittle(5, 7), 8);
    }

    private static void bring(SkittleGentry x, int s, int plate) {
        if (x.skittle(s, 3) != plate) {
            x.change(x.skittle(s, 3), plate);
        }
    }

    private static void talk() {
        due.sentence("TALK: pairs of SKITTLES that lie, side by side (their PLATES one ROW and one COLUMN off): how many.");
        String beside = "01 02 13 14 24 25 36 46 47 57 68 78";
        for (int p = 0; p < 9; p++) {
            for (int q = p + 1; q < 9; q++) {
                SkittleGentry x = Due.with("g0;s0 1 0;s0 1 0;");
                due.is("both FALL", x.ball(2, 1, 2), 3);
                bring(x, 1, q);
                bring(x, 0, p);
                due.is("on PLATES " + p + ", " + q, 10 * x.skittle(0, 3) + x.skittle(1, 3), 10 * p + q);
                due.is("they TALK", x.told(11), beside.contains("" + p + q) ? 1 : 0);
                x.lift(1);
                due.is("1 stands", x.told(11), 0);
                x.undo();
                x.lift(0);
                due.is("0 stands", x.told(11), 0);
                x.lift(1);
                due.is("both stand", x.told(11), 0);
            }
        }
        due.is("all stand", Due.with(Due.LIGHT).told(11), 0);
        due.is("all lie", allLie().told(11), 12);
        due.is("no SKITTLES", Due.with("g0;").told(11), 0);
    }

    private static void firm() {
        due.sentence("FIRM: of all BALLS by how many none FALLS.");
        due.is("all lie", allLie().told(10), 600);
        due.is("no SKITTLES", Due.with("g0;").told(10), 600);
        due.is("nine light ones", Due.with(Due.LIGHT).told(10), 240);
        due.is("one that BEARS 20", alone(20, 8).told(10), 600 - 21);
        due.is("one that BEARS 1", alone(1, 8).told(10), 600 - 40);
    }

    private static void calm() {
        due.sentence("CALM: odds of n calm nights (0 .. 60), each by q of a hundred (0 .. 100): a BILLION times q / 100"
            + " each (cut).");
        SkittleGentry x = new SkittleGentry();
        due.is("no night, q 0", x.calm(0, 0), 1000000000);
        due.is("no night, q 100", x.calm(0, 100), 1000000000);
        due.is("one night, q 0", x.calm(1, 0), 0);
        due.is("one night, q 1", x.calm(1, 1), 10000000);
        due.is("one night, q 99", x.calm(1, 99), 990000000);
        due.is("60 nights, q 100", x.calm(60, 100), 1000000000);
        due.is("60 nights, q 99", x.calm(60, 99), 547156620);
        due.is("60 nights, q 1", x.calm(60, 1), 0);
        due.is("4 nights, q 1", x.calm(4, 1), 10);
        due.is("5 nights, q 1, cut", x.calm(5, 1), 0);
        // Cut once, at the end, it would be 941480149.
        due.is("cut each night", x.calm(6, 99), 941480148);
        due.is("without a COUNTY or with one", Due.with(Due.NINE).calm(6, 99), 941480148);
    }
}
