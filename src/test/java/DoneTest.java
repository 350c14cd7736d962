/** Promises 8 to 15: ball, setUp, lift, change, chip, replace, drift, undo. */
public final class DoneTest {
    private static final int UNKNOWN = SkittleGentry.UNKNOWN;
    private static final int OUTSIDE = SkittleGentry.OUTSIDE;
    private static final int NOT = SkittleGentry.NOT;
    private static final int NONE = SkittleGentry.NONE;
    private static final Due due = new Due();

    public static void main(String[] args) {
        ballRowByRow();
        ballStrikesInOrder();
        ballBounds();
        counts();
        settingUp();
        lifting();
        changing();
        chipping();
        replacing();
        drifting();
        undoing();
        undoingAtMostSixteen();
        undoingEachKind();
        due.end();
    }

    private static void ballRowByRow() {
        SkittleGentry x = Due.with(Due.NINE);
        due.is("less than it BEARS", x.ball(2, 1, 7), 0);
        due.is("it ROCKS", x.skittle(0, 5), 1);
        due.is("what it BEARS", x.ball(2, 1, 8), 7);
        due.is("who stands", x.told(3), 504);
        due.is("in an empty COLUMN", x.ball(0, 0, 40), 0);
        due.is("through those that lie", x.ball(2, 1, 40), 464);
        due.is("TAKEN by one behind the BALL", x.skittle(6, 6), 4);
        due.is("hit by a BALL", x.skittle(8, 6), NONE);
        // FLOOR 9 drags 3 in each ROW: PACE 7 is 1 in ROW 2, PACE 6 ends in ROW 1.
        SkittleGentry drag = Due.with("g9;s0 20 0;s0 20 0;s0 20 0;s0 1 0;");
        due.is("PACE 6 with drag 3", drag.ball(0, 1, 6), 0);
        due.is("it did not come so far", drag.skittle(3, 5), 0);
        due.is("PACE 7 with drag 3", drag.ball(0, 1, 7), 8);
        // FLOOR 2 drags nothing.
        SkittleGentry smooth = Due.with("g2;s0 20 0;s0 20 0;s0 20 0;s0 1 0;");
        due.is("PACE 1 without drag", smooth.ball(0, 1, 1), 8);
    }

    private static void ballStrikesInOrder() {
        // 0 is HIT with 8 and strikes 1 and 2 with 4; 1 strikes 3 and 4 with 2, ahead of 2: so 1 takes 4.
        SkittleGentry x = Due.with(Due.LIGHT);
        due.is("all but one end", x.ball(2, 1, 4), 319);
        due.is("3 by 1", x.skittle(3, 6), 1);
        due.is("4 by 1", x.skittle(4, 6), 1);
        due.is("5 by 2", x.skittle(5, 6), 2);
        due.is("8 by the BALL", x.skittle(8, 6), NONE);
        due.is("6 was struck with 0", x.skittle(6, 5), 0);
        SkittleGentry y = Due.with(Due.LIGHT);
        due.is("all", y.ball(2, 1, 40), 511);
        due.is("6 by 3, ahead of 4", y.skittle(6, 6), 3);
        due.is("8 by 6", y.skittle(8, 6), 6);
        due.is("FIRST of 8", y.skittle(8, 7), 0);
        due.is("0 by the BALL", y.skittle(0, 6), NONE);
        // One that BEARS too much in between ROCKS twice, once by each.
        SkittleGentry z = Due.with("g0;s0 1 0;s0 1 0;s0 1 0;s0 1 0;s0 20 0;");
        due.is("the middle stands", z.ball(2, 1, 4), 15);
        due.is("it ROCKED by 1, 2, the BALL", z.skittle(4, 5), 3);
    }

    private static void ballBounds() {
        SkittleGentry none = new SkittleGentry();
        due.is("no COUNTY", none.ball(0, 0, 1), NOT);
        due.is("no COUNTY, OUTSIDE", none.ball(5, 0, 1), OUTSIDE);
        SkittleGentry x = Due.with(Due.LIGHT);
        int[][] wrong = {{-1, 1, 5}, {5, 1, 5}, {2, -1, 5}, {2, 3, 5}, {2, 1, 0}, {2, 1, 41}};
        for (int[] b : wrong) {
            due.is("ball(" + b[0] + ", " + b[1] + ", " + b[2] + ")", x.ball(b[0], b[1], b[2]), OUTSIDE);
        }
        due.is("nothing THROWN", x.told(4), 0);
        due.is("nothing to undo", x.told(13), 0);
        due.is("ball(4, 2, 40)", x.ball(4, 2, 40), 0);
        due.is("ball(0, 0, 1)", x.ball(0, 0, 1), 0);
        due.is("THROWN", x.told(4), 2);
    }

    private static void counts() {
        SkittleGentry x = Due.with(Due.LIGHT);
        x.ball(2, 1, 40);
        x.setUp();
        x.ball(0, 1, 1);
        x.ball(2, 1, 40);
        due.is("eight that FALL are no FLOORER", x.told(5), 1);
        x.setUp();
        x.ball(2, 1, 40);
        due.is("FLOORERS", x.told(5), 2);
        due.is("THROWS", x.told(4), 4);
        SkittleGentry eight = Due.with("g0;" + "s0 1 0;".repeat(8));
        due.is("all of eight", eight.ball(2, 1, 40), 255);
        due.is("no FLOORER of eight", eight.told(5), 0);
    }

    private static void settingUp() {
        due.is("setUp() without a COUNTY", new SkittleGentry().setUp(), NOT);
        SkittleGentry x = Due.with(Due.NINE);
        due.is("setUp() when none lies", x.setUp(), 0);
        due.is("it can be undone", x.told(13), 1);
        x.ball(2, 1, 8);
        due.is("setUp() when three lie", x.setUp(), 3);
        due.is("all stand", x.told(3), 511);
        due.is("who ROCKED is kept", x.skittle(4, 5), 3);
        due.is("who was TAKEN is kept", x.skittle(1, 6), 0);
        due.is("setUp() of none", Due.with("g0;").setUp(), 0);
    }

    private static void lifting() {
        due.is("lift(0) without a COUNTY", new SkittleGentry().lift(0), UNKNOWN);
        SkittleGentry x = Due.with(Due.NINE);
        x.ball(2, 1, 8);
        due.is("lift(1)", x.lift(1), 7);
        due.is("it stands", x.skittle(1, 4), 1);
        due.is("others do not", x.told(3), 506);
        due.is("lift(1) again", x.lift(1), NOT);
        due.is("lift(3)", x.lift(3), NOT);
        due.is("lift(9)", x.lift(9), UNKNOWN);
        due.is("lift(-1)", x.lift(-1), UNKNOWN);
        due.is("refused ones are not to be undone", x.told(13), 2);
    }

    private static void changing() {
        SkittleGentry none = new SkittleGentry();
        due.is("change(0, 1) without a COUNTY", none.change(0, 1), NONE);
        due.is("it can be undone", none.undo(), 0);
        SkittleGentry x = Due.with("g0;s2 5 0;s0 5 0;");
        due.is("change(0, 1)", x.change(0, 1), 1);
        due.is("skittle(0, 3)", x.skittle(0, 3), 1);
        due.is("the saint BEARS less there", x.skittle(0, 8), 5);
        due.is("change(8, 0)", x.change(8, 0), 1);
        due.is("plate(0)", x.plate(0), NONE);
        due.is("change(0, 8)", x.change(0, 8), 1);
        due.is("change(4, 5), both empty", x.change(4, 5), NONE);
        due.is("change(1, 2), to an empty one", x.change(1, 2), NONE);
        due.is("skittle(0, 3) then", x.skittle(0, 3), 2);
        due.is("change(3, 3)", x.change(3, 3), UNKNOWN);
        due.is("change(-1, 3)", x.change(-1, 3), UNKNOWN);
        due.is("change(3, 9)", x.change(3, 9), UNKNOWN);
        due.is("to be undone", x.told(13), 5);
        x.ball(2, 1, 40);
        due.is("those that lie change too", x.change(0, 7), NONE);
        due.is("and lie there", x.plate(7) * 10 + x.skittle(1, 4), 10);
    }

    private static void chipping() {
        SkittleGentry x = Due.with(Due.NINE);
        due.is("chip(8, 9)", x.chip(8, 9), 0);
        due.is("skittle(8, 2)", x.skittle(8, 2), 9);
        due.is("skittle(8, 8)", x.skittle(8, 8), 11);
        due.is("chip(8, 9) again", x.chip(8, 9), 9);
        due.is("chip(8, 0)", x.chip(8, 0), 9);
        due.is("chip(8, 10)", x.chip(8, 10), OUTSIDE);
        due.is("chip(8, -1)", x.chip(8, -1), OUTSIDE);
        due.is("chip(9, 10)", x.chip(9, 10), UNKNOWN);
        due.is("chip(-1, 0)", x.chip(-1, 0), UNKNOWN);
        due.is("to be undone", x.told(13), 3);
    }

    private static void replacing() {
        SkittleGentry x = Due.with(Due.NINE);
        due.is("replace(0)", x.replace(0), 2);
        due.is("skittle(0, 0)", x.skittle(0, 0), 3);
        due.is("skittle(0, 8)", x.skittle(0, 8), 3);
        due.is("skittle(0, 1)", x.skittle(0, 1), 6);
        due.is("replace(0) again", x.replace(0), NOT);
        due.is("replace(6)", x.replace(6), NOT);
        due.is("replace(3)", x.replace(3), 1);
        due.is("replace(1)", x.replace(1), 0);
        due.is("replace(9)", x.replace(9), UNKNOWN);
        due.is("replace(-1)", x.replace(-1), UNKNOWN);
        due.is("to be undone", x.told(13), 3);
    }

    private static void drifting() {
        SkittleGentry none = new SkittleGentry();
        due.is("drift(1) without a COUNTY", none.drift(1), NOT);
        due.is("drift(0) without a COUNTY", none.drift(0), OUTSIDE);
        SkittleGentry x = Due.with(Due.NINE);
        due.is("drift(0)", x.drift(0), OUTSIDE);
        due.is("drift(31)", x.drift(31), OUTSIDE);
        due.is("THE SEED is as it was", x.seed(5), 0);
        x.ball(2, 1, 8);
        due.is("drift(20)", x.drift(20), 469);
        due.is("THROWS", x.told(4), 13);
        due.is("to be undone", x.told(13), 2);
        due.is("undone at once", x.undo(), 1);
        due.is("who stands", x.told(3), 504);
        due.is("THE SEED stays", x.seed(0), 136432203);
        oneDraw();
    }

    /** Looks for SEEDS by which a BALL comes up the middle, and has it meet one that just BEARS it, or not. */
    private static void oneDraw() {
        int found = 0;
        for (int seed = 0; seed < 10000 && found < 20; seed++) {
            long at = seed;
            int[] of = {4, 5, 3, 40};
            int[] draws = new int[4];
            for (int i = 0; i < 4; i++) {
                at = (at * 1103515245L + 12345L) % 2147483648L;
                draws[i] = (int) (at / 65536 % of[i]);
            }
            int pace = draws[3] + 1;
            if (draws[0] < 2 && draws[1] == 2 && draws[2] == 1 && pace < 20) {
                found++;
                oneBall(seed, pace, pace, 0);
                oneBall(seed, pace, pace + 1, 1);
            }
        }
        due.is("SEEDS by which it comes so", found, 20);
    }

    private static void oneBall(int seed, int pace, int weight, int want) {
        SkittleGentry x = Due.with("g0;s0 " + weight + " 0;");
        x.seed(seed);
        due.is("drift(1) of SEED " + seed + ", PACE " + pace, x.drift(1), want);
        due.is("one THROW", x.told(4), 1);
        due.is("it ROCKED", x.skittle(0, 5), want);
    }

    private static void undoing() {
        SkittleGentry x = Due.with(Due.LIGHT);
        due.is("undo() at first", x.undo(), NOT);
        x.ball(2, 1, 40);
        x.setUp();
        due.is("undo() of setUp()", x.undo(), 1);
        due.is("all lie", x.told(3), 0);
        due.is("undo() of ball()", x.undo(), 0);
        due.is("all stand", x.told(3), 511);
        due.is("no THROW", x.told(4), 0);
        due.is("no FLOORER", x.told(5), 0);
        due.is("nobody TAKEN", x.skittle(8, 6), NONE);
        due.is("undo() again", x.undo(), NOT);
        x.write(0, true);
        x.ball(2, 1, 1);
        due.is("THE BOOK stays", x.undo() + x.told(12), 1);
    }

    private static void undoingAtMostSixteen() {
        SkittleGentry x = Due.with(Due.NINE);
        for (int i = 0; i < 20; i++) {
            x.chip(0, i % 10);
        }
        due.is("told(13)", x.told(13), 16);
        for (int left = 15; left >= 0; left--) {
            due.is("undo() of many", x.undo(), left);
            due.is("CHIP as ahead of it", x.skittle(0, 2), (left + 3) % 10);
        }
        due.is("the oldest are lost", x.undo(), NOT);
        x.chip(0, 9);
        due.is("one more", x.undo(), 0);
        due.is("CHIP then", x.skittle(0, 2), 3);
    }

    private static void undoingEachKind() {
        SkittleGentry x = Due.with(Due.NINE);
        x.ball(2, 1, 8);
        x.lift(0);
        x.change(0, 8);
        x.chip(3, 9);
        x.replace(3);
        x.drift(30);
        x.undo();
        due.is("drift() undone: told(4)", x.told(4), 1);
        due.is("drift() undone: told(3)", x.told(3), 505);
        x.undo();
        due.is("replace() undone", x.skittle(3, 0), 1);
        x.undo();
        due.is("chip() undone", x.skittle(3, 2), 4);
        x.undo();
        due.is("change() undone", x.plate(0), 0);
        due.is("change() undone: its PLATE", x.skittle(8, 3), 8);
        x.undo();
        due.is("lift() undone", x.told(3), 504);
        due.is("ROCKED as ahead", x.skittle(4, 5), 3);
        x.undo();
        due.is("ball() undone: ROCKED", x.skittle(4, 5), 0);
    }
}
