/** The edges of section 2 and of promises 6 and 8 to 13: what SKITTLES BEAR, BALLS, and what else is done. */
public final class ThrowEdgesTest {
    private static final int NONE = SkittleGentry.NONE;
    private static final int NOT = SkittleGentry.NOT;
    private static final int[] ROW = {0, 1, 1, 2, 2, 2, 3, 3, 4};
    private static final int[] COLUMN = {2, 1, 3, 0, 2, 4, 1, 3, 2};
    private static final Due due = new Due();

    public static void main(String[] args) {
        diamond();
        outOfTheAlley();
        standsAtFirst();
        gentryBears();
        oldFamilyBears();
        saintBears();
        poorRelationBears();
        oneAtLeast();
        whatItBearsOrMore();
        paceIsLess();
        staysWhereItRocks();
        drag();
        dragBehindAHit();
        paceNoughtOrLess();
        behindTheLastRow();
        rocksAtMost();
        halfOfWhatHit();
        halfOfOne();
        edgesOfTheDiamond();
        thoseThatStand();
        aheadOfWhatComesNext();
        lessThenMore();
        takenByBallOrNone();
        throwsAreCounted();
        floorers();
        setUp();
        lift();
        change();
        chip();
        replace();
        due.end();
    }

    /** One SKITTLE, on a PLATE of its own. */
    private static SkittleGentry alone(String floorAndSkittle, int plate) {
        SkittleGentry x = Due.with(floorAndSkittle);
        if (plate != 0) {
            x.change(0, plate);
        }
        return x;
    }

    private static void diamond() {
        due.sentence("ROW 0: PLATE 0, in COLUMN 2; ROW 1: 1, 2, in COLUMNS 1, 3; ROW 2: 3, 4, 5, in 0, 2, 4;"
            + " ROW 3: 6, 7, in 1, 3; ROW 4: 8, in 2.");
        for (int p = 0; p < 9; p++) {
            SkittleGentry x = alone("g0;s0 2 0;", p);
            for (int line = 0; line <= 4; line++) {
                for (int slant = 0; slant <= 2; slant++) {
                    boolean meets = line + ROW[p] * (slant - 1) == COLUMN[p];
                    String ball = "PLATE " + p + ": wouldFall(" + line + ", " + slant;
                    due.is(ball + ", 2, 0)", x.wouldFall(line, slant, 2, 0), meets ? 1 : 0);
                    due.is(ball + ", 1, 1)", x.wouldFall(line, slant, 1, 1), meets ? 1 : 0);
                    due.is(ball + ", 1, 2)", x.wouldFall(line, slant, 1, 2), meets ? ROW[p] : NONE);
                }
            }
        }
    }

    private static void outOfTheAlley() {
        due.sentence("(in each ROW on it is in a COLUMN SLANT less 1 more)");
        // LINE 0 goes to COLUMN -4, LINE 4 to COLUMN 8: no PLATE is there, nor one of another ROW.
        SkittleGentry x = Due.with(Due.LIGHT);
        due.is("LINE 0, SLANT 0", x.ball(0, 0, 40), 0);
        due.is("LINE 4, SLANT 2", x.ball(4, 2, 40), 0);
        due.is("LINE 0 goes through", x.wouldFall(0, 0, 1, 2), NONE);
        due.is("LINE 4 goes through", x.wouldFall(4, 2, 1, 2), NONE);
        due.is("LINE 1, SLANT 0, over no PLATE", x.wouldFall(1, 0, 40, 0), 0);
        due.is("LINE 3, SLANT 2, over no PLATE", x.wouldFall(3, 2, 40, 0), 0);
        due.is("nobody ROCKS", x.wouldFall(3, 2, 40, 1), 0);
        due.is("all stand", x.told(3), 511);
        // Drag slows it down there, too.
        due.is("LINE 0 with drag", Due.with("g3;").wouldFall(0, 0, 3, 2), 2);
        due.is("LINE 4 with drag", Due.with("g3;").wouldFall(4, 2, 3, 2), 2);
    }

    private static void standsAtFirst() {
        due.sentence("A SKITTLE stands (at first), or lies.");
        SkittleGentry x = Due.with("g0;s0 1 0;");
        due.is("at first", x.skittle(0, 4), 1);
        x.ball(2, 1, 1);
        due.is("FALLEN", x.skittle(0, 4), 0);
    }

    private static void bears(int kind, int weight, int chip, int plate, int want) {
        SkittleGentry x = alone("g0;s" + kind + " " + weight + " " + chip + ";", plate);
        due.is("KIND " + kind + ", WEIGHT " + weight + ", CHIP " + chip + ", PLATE " + plate, x.skittle(0, 8), want);
    }

    private static void gentryBears() {
        due.sentence("0 (gentry): WEIGHT less CHIP.");
        bears(0, 20, 0, 0, 20);
        bears(0, 20, 9, 0, 11);
        bears(0, 11, 9, 4, 2);
        bears(0, 10, 9, 4, 1);
        bears(0, 9, 9, 0, 1);
        bears(0, 8, 9, 8, 1);
    }

    private static void oldFamilyBears() {
        due.sentence("1 (old family): WEIGHT, less half of CHIP (cut).");
        bears(1, 20, 0, 0, 20);
        bears(1, 20, 1, 0, 20);
        bears(1, 20, 2, 8, 19);
        bears(1, 20, 3, 8, 19);
        bears(1, 20, 8, 0, 16);
        bears(1, 20, 9, 0, 16);
        bears(1, 6, 9, 3, 2);
        bears(1, 5, 9, 3, 1);
        bears(1, 4, 9, 3, 1);
    }

    private static void saintBears() {
        due.sentence("2 (saint): as 0, but 2 more if it is in ROW 0.");
        bears(2, 20, 0, 0, 22);
        bears(2, 20, 9, 0, 13);
        bears(2, 1, 0, 0, 3);
        for (int p = 1; p < 9; p++) {
            bears(2, 20, 0, p, 20);
            bears(2, 20, 9, p, 11);
        }
        bears(2, 9, 9, 0, 2);
        bears(2, 8, 9, 0, 1);
        bears(2, 7, 9, 0, 1);
        for (int kind : new int[] {0, 1}) {
            bears(kind, 5, 0, 0, 5);
        }
        bears(3, 10, 0, 0, 5);
    }

    private static void poorRelationBears() {
        due.sentence("3 (poor relation): half of WEIGHT (cut)");
        bears(3, 20, 0, 0, 10);
        bears(3, 20, 9, 0, 10);
        bears(3, 19, 9, 8, 9);
        bears(3, 3, 0, 8, 1);
        bears(3, 2, 9, 0, 1);
        bears(3, 1, 0, 0, 1);
    }

    private static void oneAtLeast() {
        due.sentence("1 at least for all.");
        for (int kind = 0; kind <= 3; kind++) {
            bears(kind, 1, 9, 0, 1);
            bears(kind, 1, 9, 8, 1);
        }
        SkittleGentry x = Due.with("g0;s0 1 9;");
        due.is("PACE 1 is enough for it", x.ball(2, 1, 1), 1);
    }

    private static void whatItBearsOrMore() {
        due.sentence("if that is what it BEARS or more, it FALLS");
        for (int b = 1; b <= 20; b++) {
            SkittleGentry x = Due.with("g0;s0 " + b + " 0;");
            if (b > 1) {
                due.is("one less than " + b, x.ball(2, 1, b - 1), 0);
                due.is("it ROCKS", x.skittle(0, 5), 1);
            }
            due.is("one more than " + b, x.wouldFall(2, 1, b + 1, 0), 1);
            due.is("just " + b, x.ball(2, 1, b), 1);
            due.is("it ROCKS no more", x.skittle(0, 5), b > 1 ? 1 : 0);
        }
        SkittleGentry saint = Due.with("g0;s2 20 0;");
        due.is("21 for a saint", saint.ball(2, 1, 21), 0);
        due.is("22 for a saint", saint.ball(2, 1, 22), 1);
    }

    /** One in front, one on PLATE 4 that BEARS just what is left of PACE, or one more. */
    private static void paceIsLess() {
        due.sentence("and PACE is less by half of what it BEARS (cut), and 1");
        int[][] cases = {{1, 2, 1}, {1, 20, 19}, {2, 3, 1}, {2, 20, 18}, {3, 3, 1}, {3, 20, 18}, {4, 4, 1}, {5, 5, 2},
            {5, 20, 17}, {19, 19, 9}, {20, 20, 9}, {20, 30, 19}, {19, 30, 20}};
        for (int[] c : cases) {
            SkittleGentry x = Due.with("g0;s0 " + c[0] + " 0;s0 " + c[2] + " 0;");
            x.change(1, 4);
            due.is("BEARS " + c[0] + ", PACE " + c[1] + ", then " + c[2], x.wouldFall(2, 1, c[1], 0), 3);
            due.is("BEARS " + c[0] + ", one PACE less", x.wouldFall(2, 1, c[1] - 1, 0), c[1] > c[0] ? 1 : 0);
        }
    }

    private static void staysWhereItRocks() {
        due.sentence("else it ROCKS (counted, 9999 at most), and the BALL stays there.");
        for (int p = 0; p < 9; p++) {
            due.is("where, PLATE " + p, alone("g0;s0 20 0;", p).wouldFall(COLUMN[p], 1, 19, 2), ROW[p]);
        }
        SkittleGentry two = Due.with("g0;s0 20 0;s0 1 0;");
        two.change(1, 4);
        due.is("none behind FALLS", two.ball(2, 1, 19), 0);
        due.is("nor ROCKS", two.skittle(1, 5), 0);
    }

    private static void drag() {
        due.sentence("Behind each ROW PACE is less by FLOOR / 3 (cut)");
        int[] drags = {0, 0, 0, 1, 1, 1, 2, 2, 2, 3};
        for (int floor = 0; floor <= 9; floor++) {
            SkittleGentry x = Due.with("g" + floor + ";");
            int d = drags[floor];
            for (int pace = 1; pace <= 16; pace++) {
                int want = pace > 5 * d ? NONE : (pace + d - 1) / d - 1;
                due.is("FLOOR " + floor + ", PACE " + pace, x.wouldFall(0, 1, pace, 2), want);
            }
        }
        // What is left in the last ROW: 40 less four times 3.
        SkittleGentry far = alone("g9;s0 20 0;", 8);
        due.is("31 is not enough", far.ball(2, 1, 31), 0);
        due.is("it ROCKED", far.skittle(0, 5), 1);
        due.is("32 is", far.ball(2, 1, 32), 1);
    }

    private static void dragBehindAHit() {
        due.sentence("Behind each ROW PACE is less by FLOOR / 3 (cut)");
        // It is HIT ahead of the drag of its own ROW; what is left behind it loses both.
        SkittleGentry x = Due.with("g9;s0 4 0;s0 1 0;");
        x.change(1, 4);
        due.is("PACE 4 is enough in ROW 0", x.wouldFall(2, 1, 4, 0), 1);
        due.is("9 less 3, less 3, less 3 is none", x.wouldFall(2, 1, 9, 0), 1);
        due.is("and stays in ROW 1", x.wouldFall(2, 1, 9, 2), 1);
        due.is("10 less 3, less 3, less 3 is 1", x.wouldFall(2, 1, 10, 0), 3);
    }

    private static void paceNoughtOrLess() {
        due.sentence("a BALL of PACE 0 or less stays there.");
        SkittleGentry light = Due.with("g0;s0 1 0;");
        due.is("1 less 1 is 0", light.wouldFall(2, 1, 1, 2), 0);
        due.is("2 less 1 is 1", light.wouldFall(2, 1, 2, 2), NONE);
        SkittleGentry two = Due.with("g0;s0 2 0;");
        due.is("2 less 2 is 0", two.wouldFall(2, 1, 2, 2), 0);
        due.is("3 less 2 is 1", two.wouldFall(2, 1, 3, 2), NONE);
        SkittleGentry slow = Due.with("g9;s0 2 0;");
        due.is("2 less 2, less 3 is less than 0", slow.wouldFall(2, 1, 2, 2), 0);
        due.is("it FALLS though", slow.wouldFall(2, 1, 2, 0), 1);
        due.is("5 less 2, less 3 is 0", slow.wouldFall(2, 1, 5, 2), 0);
        due.is("6 less 2, less 3 is 1", slow.wouldFall(2, 1, 6, 2), 1);
        // One of PACE 0 does not even ROCK the next one.
        SkittleGentry next = Due.with("g3;s0 1 0;");
        next.change(0, 4);
        due.is("2 less 1, less 1", next.wouldFall(2, 1, 2, 1), 0);
        due.is("3 less 1, less 1", next.wouldFall(2, 1, 3, 0), 1);
    }

    private static void behindTheLastRow() {
        due.sentence("a BALL of PACE 0 or less stays there.");
        SkittleGentry bare = Due.with("g9;");
        due.is("15 is used up behind ROW 4", bare.wouldFall(0, 1, 15, 2), 4);
        due.is("16 goes through", bare.wouldFall(0, 1, 16, 2), NONE);
        SkittleGentry last = alone("g0;s0 1 0;", 8);
        due.is("used up by the last one", last.wouldFall(2, 1, 1, 2), 4);
        due.is("1 is left behind it", last.wouldFall(2, 1, 2, 2), NONE);
        due.sentence("where it stays (a ROW; NONE: it goes through).");
        due.is("through an empty alley", Due.with("g0;").wouldFall(2, 1, 1, 2), NONE);
    }

    /**
     * The 512 calls that an object is used for do not come so far, so what is due here is due of later calls,
     * that are free: but a count that ended elsewhere, or none, would show.
     */
    private static void rocksAtMost() {
        due.sentence("else it ROCKS (counted, 9999 at most), and the BALL stays there.");
        SkittleGentry x = Due.with("g0;s0 1 0;s0 1 0;s0 1 0;s0 1 0;s0 20 0;");
        for (int i = 0; i < 3332; i++) {
            x.ball(2, 1, 4);
            x.setUp();
        }
        due.is("three times each", x.skittle(4, 5), 9996);
        x.ball(2, 1, 4);
        due.is("9999 are counted", x.skittle(4, 5), 9999);
        x.undo();
        x.change(4, 0);
        x.ball(2, 1, 1);
        due.is("one more", x.skittle(4, 5), 9997);
        x.change(4, 0);
        x.ball(2, 1, 4);
        due.is("three more than 9997", x.skittle(4, 5), 9999);
        x.ball(2, 1, 4);
        due.is("one more than 9999", x.skittle(4, 5), 9999);
        due.is("it is still told that it would ROCK", x.wouldFall(2, 1, 4, 1), 1);
    }

    private static void halfOfWhatHit() {
        due.sentence("if there are such, with n / 2 (cut)");
        for (int n = 2; n <= 40; n++) {
            int half = n / 2;
            SkittleGentry x = Due.with("g0;s0 1 0;s0 " + half + " 0;s0 20 0;");
            due.is("HIT with " + n + ", strikes what BEARS " + half, x.wouldFall(2, 1, n, 0), half >= 20 ? 7 : 3);
            if (half < 20) {
                SkittleGentry more = Due.with("g0;s0 1 0;s0 " + (half + 1) + " 0;s0 20 0;");
                due.is("HIT with " + n + ", strikes what BEARS one more", more.wouldFall(2, 1, n, 0), 1);
                due.is("both ROCK", more.wouldFall(2, 1, n, 1), 2);
            }
        }
        // n is what it was HIT with, not what is left of PACE: 20 for one that BEARS 19.
        SkittleGentry heavy = Due.with("g0;s0 19 0;s0 10 0;s0 11 0;");
        due.is("HIT with 20, BEARS 19", heavy.wouldFall(2, 1, 20, 0), 3);
        // Who is struck strikes on with half of that again: 40, 20, 10, 5, 2.
        SkittleGentry chain = Due.with("g0;s0 20 0;s0 20 0;s0 20 0;s0 10 0;s0 11 0;s0 11 0;s0 5 0;s0 20 0;s0 2 0;");
        due.is("40, 20, 10, 5, 2", chain.wouldFall(2, 1, 40, 0) & (1 | 2 | 8 | 64 | 256), 1 | 2 | 8 | 64 | 256);
        due.is("8 by 6", chain.ball(2, 1, 40) & 32, 0);
        due.is("TAKEN by 6", chain.skittle(8, 6), 6);
        due.is("FIRST is 0", chain.skittle(8, 7), 0);
    }

    private static void halfOfOne() {
        due.sentence("or ROCK, if n / 2 is 1 or more.");
        SkittleGentry x = Due.with("g0;s0 1 0;s0 2 0;s0 2 0;");
        due.is("HIT with 1, nobody ROCKS", x.wouldFall(2, 1, 1, 1), 0);
        due.is("nor FALLS", x.wouldFall(2, 1, 1, 0), 1);
        due.is("HIT with 2, two ROCK", x.wouldFall(2, 1, 2, 1), 2);
        due.is("HIT with 3, two ROCK", x.wouldFall(2, 1, 3, 1), 2);
        due.is("HIT with 4, none ROCKS", x.wouldFall(2, 1, 4, 1), 0);
        due.is("HIT with 4, all FALL", x.wouldFall(2, 1, 4, 0), 7);
        SkittleGentry light = Due.with("g0;s0 1 0;s0 1 0;s0 1 0;");
        due.is("HIT with 1, light ones stand", light.wouldFall(2, 1, 1, 0), 1);
        due.is("HIT with 2, light ones FALL", light.wouldFall(2, 1, 2, 0), 7);
        light.ball(2, 1, 1);
        due.is("it is not counted either", light.skittle(1, 5) + light.skittle(2, 5), 0);
    }

    private static void edgesOfTheDiamond() {
        due.sentence("strikes those that stand on PLATES one ROW behind, one COLUMN less, then more, if there are such");
        SkittleGentry x = Due.with(Due.LIGHT);
        due.is("3 has one behind it", x.wouldFall(0, 1, 2, 0), 8 | 64);
        due.is("3, 6, 8", x.wouldFall(0, 1, 4, 0), 8 | 64 | 256);
        due.is("5 has one behind it", x.wouldFall(4, 1, 2, 0), 32 | 128);
        due.is("5, 7, 8", x.wouldFall(4, 1, 4, 0), 32 | 128 | 256);
        // 1 strikes 3 and 4; the BALL goes on to 6.
        due.is("1 has two behind it", x.wouldFall(1, 1, 2, 0), 2 | 8 | 16 | 64);
        due.is("2 has two behind it", x.wouldFall(3, 1, 2, 0), 4 | 16 | 32 | 128);
        for (int p = 0; p < 9; p++) {
            due.is("alone on PLATE " + p, alone("g0;s0 1 0;", p).wouldFall(COLUMN[p], 1, 40, 0), 1);
        }
        // Those in its own ROW, or two ROWS behind, are not struck.
        SkittleGentry apart = Due.with("g0;s0 1 0;s0 1 0;s0 1 0;");
        apart.change(0, 3);
        apart.change(1, 4);
        apart.change(2, 8);
        due.is("3 strikes neither 4 nor 8", apart.wouldFall(0, 1, 40, 0), 1);
        due.is("nobody ROCKS", apart.wouldFall(0, 1, 40, 1), 0);
    }

    private static void thoseThatStand() {
        due.sentence("strikes those that stand on PLATES one ROW behind");
        SkittleGentry x = Due.with("g0;s0 1 0;s0 9 0;s0 1 0;s0 1 0;");
        due.is("1 FALLS first", x.ball(1, 1, 9), 10);
        due.is("0 strikes 2 alone", x.ball(2, 1, 40), 5);
        due.is("who lies does not ROCK", x.skittle(1, 5), 0);
        due.is("3 is not struck over it", x.skittle(3, 6), 1);
        due.sentence("if a SKITTLE stands on a PLATE where it is");
        due.is("all lie: none FALLS", x.ball(2, 1, 40), 0);
        due.is("all lie: none ROCKS", x.wouldFall(2, 1, 1, 1), 0);
        due.is("all lie: it goes through", x.wouldFall(2, 1, 1, 2), NONE);
    }

    private static void aheadOfWhatComesNext() {
        due.sentence("likewise they FALL (at once, and strike on, ahead of what comes next)");
        SkittleGentry x = Due.with(Due.LIGHT);
        due.is("all FALL", x.ball(2, 1, 40), 511);
        int[] by = {NONE, 0, 0, 1, 1, 2, 3, 4, 6};
        for (int s = 0; s < 9; s++) {
            due.is(s + " was TAKEN by", x.skittle(s, 6), by[s]);
        }
        // 4 BEARS 5: 1 strikes it with 5 of 20 and takes it, ahead of 2 and of the BALL.
        SkittleGentry y = Due.with("g0;s0 1 0;s0 1 0;s0 1 0;s0 20 0;s0 5 0;");
        y.ball(2, 1, 20);
        due.is("4 was TAKEN by 1", y.skittle(4, 6), 1);
        // With 19 it ROCKS by 1 and 2 (4 each), and FALLS by the BALL (18).
        SkittleGentry z = Due.with("g0;s0 1 0;s0 1 0;s0 1 0;s0 20 0;s0 5 0;");
        due.is("0, 1, 2, 4 FALL", z.ball(2, 1, 19), 23);
        due.is("4 was TAKEN by none", z.skittle(4, 6), NONE);
        due.is("4 ROCKED by 1 and 2", z.skittle(4, 5), 2);
    }

    private static void lessThenMore() {
        due.sentence("one COLUMN less, then more");
        // Both 6 and 7 could take 8: 4 strikes 6 ahead of 7, and 6 strikes on at once.
        SkittleGentry x = Due.with("g0;" + "s0 1 0;".repeat(9));
        x.ball(0, 1, 1);
        x.ball(4, 1, 1);
        x.ball(2, 1, 40);
        due.is("6 by 4", x.skittle(6, 6), 4);
        due.is("7 by 4", x.skittle(7, 6), 4);
        due.is("8 by 6", x.skittle(8, 6), 6);
    }

    private static void takenByBallOrNone() {
        due.sentence("each keeps by whom it was TAKEN last (NONE at first).");
        SkittleGentry x = Due.with("g0;s0 1 0;s0 1 0;");
        due.is("at first", x.skittle(1, 6), NONE);
        x.ball(1, 1, 1);
        due.is("by a BALL: by NONE", x.skittle(1, 6), NONE);
        x.setUp();
        x.ball(2, 1, 2);
        due.is("by 0", x.skittle(1, 6), 0);
        x.setUp();
        due.is("kept, as it stands again", x.skittle(1, 6), 0);
        x.ball(1, 1, 1);
        due.is("by a BALL again", x.skittle(1, 6), NONE);
        x.setUp();
        x.ball(2, 1, 2);
        x.lift(1);
        x.chip(1, 0);
        due.is("kept, LIFTED", x.skittle(1, 6), 0);
        // Who only ROCKS keeps it, too.
        SkittleGentry y = Due.with("g0;s0 1 0;s0 2 0;");
        y.ball(2, 1, 4);
        y.setUp();
        y.ball(1, 1, 1);
        due.is("it ROCKED", y.skittle(1, 5), 1);
        due.is("and keeps by whom it was TAKEN", y.skittle(1, 6), 0);
    }

    private static void throwsAreCounted() {
        due.sentence("THROWS are counted, FLOORERS (nine stood, by one BALL all FALL) are.");
        SkittleGentry x = Due.with("g0;");
        due.is("at first", x.told(4), 0);
        x.ball(0, 0, 1);
        due.is("one that meets nobody counts", x.told(4), 1);
        x.wouldFall(0, 0, 1, 0);
        x.mend(0, 0, 1, 0);
        x.allDown(0);
        due.is("one that is tried does not", x.told(4), 1);
    }

    private static void floorers() {
        due.sentence("THROWS are counted, FLOORERS (nine stood, by one BALL all FALL) are.");
        SkittleGentry x = Due.with("g0;" + "s0 1 0;".repeat(8) + "s0 20 0;");
        due.is("eight of nine that stood", x.ball(2, 1, 20), 255);
        due.is("that is none", x.told(5), 0);
        due.is("the ninth by another one", x.ball(2, 1, 20), 256);
        due.is("that is none, too", x.told(5), 0);
        x.ball(2, 1, 40);
        due.is("none stood", x.told(5), 0);
        x.setUp();
        x.ball(2, 1, 40);
        due.is("nine stood, all FALL", x.told(5), 1);
        for (int s = 0; s < 8; s++) {
            x.lift(s);
        }
        due.is("eight stood, all of them FALL", x.ball(2, 1, 40), 255);
        due.is("that is none", x.told(5), 1);
        for (int n = 0; n < 9; n++) {
            SkittleGentry fewer = Due.with("g0;" + "s0 1 0;".repeat(n));
            due.is("all of " + n, fewer.ball(2, 1, 40), (1 << n) - 1);
            due.is("none of " + n, fewer.told(5), 0);
        }
    }

    private static void setUp() {
        due.sentence("SET UP: how many lay. NOT: no COUNTY.");
        due.is("no COUNTY", new SkittleGentry().setUp(), NOT);
        due.is("no SKITTLES", Due.with("g0;").setUp(), 0);
        SkittleGentry x = Due.with(Due.LIGHT);
        due.is("none lay", x.setUp(), 0);
        x.ball(0, 1, 1);
        due.is("one lay", x.setUp(), 1);
        x.ball(2, 1, 40);
        due.is("all lay", x.setUp(), 9);
        due.is("all stand", x.told(3), 511);
    }

    private static void lift() {
        due.sentence("LIFTED: how many stand. UNKNOWN, NOT: it stands.");
        SkittleGentry x = Due.with(Due.LIGHT);
        due.is("it stands", x.lift(0), NOT);
        x.ball(2, 1, 40);
        for (int s = 8; s >= 0; s--) {
            due.is("lift(" + s + ")", x.lift(s), 9 - s);
            due.is("lift(" + s + ") again", x.lift(s), NOT);
        }
        due.is("all stand", x.told(3), 511);
        due.is("no COUNTY", new SkittleGentry().lift(0), SkittleGentry.UNKNOWN);
    }

    private static void change() {
        due.sentence("CHANGED: SKITTLES of two PLATES change places (a PLATE may be empty).");
        SkittleGentry x = Due.with("g0;s0 1 0;s0 1 0;");
        due.is("two SKITTLES", x.change(0, 1), 1);
        due.is("the first one empty", x.change(8, 0), 1);
        due.is("its PLATE", x.skittle(1, 3), 8);
        due.is("what it left", x.plate(0), NONE);
        due.is("the second one empty", x.change(8, 0), NONE);
        due.is("its PLATE then", x.skittle(1, 3), 0);
        due.is("both empty", x.change(7, 8), NONE);
        due.is("the other one stayed", x.skittle(0, 3), 1);
        due.is("each can be undone", x.told(13), 4);
        SkittleGentry none = new SkittleGentry();
        due.is("no COUNTY", none.change(0, 8), NONE);
        due.is("it can be undone", none.told(13), 1);
        due.is("and is", none.undo(), 0);
    }

    private static void chip() {
        due.sentence("CHIPPED (0 .. 9): what CHIP was. UNKNOWN, OUTSIDE.");
        SkittleGentry x = Due.with("g0;s0 20 9;");
        due.is("9 to 0", x.chip(0, 0), 9);
        due.is("it BEARS", x.skittle(0, 8), 20);
        due.is("0 to 9", x.chip(0, 9), 0);
        due.is("it BEARS then", x.skittle(0, 8), 11);
        due.is("9 to 9", x.chip(0, 9), 9);
        due.is("that can be undone, too", x.told(13), 3);
    }

    private static void replace() {
        due.sentence("REPLACED: what KIND was. UNKNOWN, NOT: it is a poor relation.");
        for (int kind = 0; kind <= 2; kind++) {
            SkittleGentry x = Due.with("g0;s" + kind + " 20 9;");
            due.is("of KIND " + kind, x.replace(0), kind);
            due.is("KIND then", x.skittle(0, 0), 3);
            due.is("WEIGHT then", x.skittle(0, 1), 20);
            due.is("CHIP then", x.skittle(0, 2), 9);
            due.is("it BEARS", x.skittle(0, 8), 10);
            due.is("again", x.replace(0), NOT);
        }
        due.is("of KIND 3", Due.with("g0;s3 20 9;").replace(0), NOT);
    }
}
