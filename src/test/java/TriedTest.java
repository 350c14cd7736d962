/** Promises 16 to 23: wouldFall, balls, spare, allDown, mend, hand, ask, calm; and what told() says of all BALLS. */
public final class TriedTest {
    private static final int UNKNOWN = SkittleGentry.UNKNOWN;
    private static final int OUTSIDE = SkittleGentry.OUTSIDE;
    private static final int NOT = SkittleGentry.NOT;
    private static final int NONE = SkittleGentry.NONE;
    private static final String ONE = "g0;s0 5 0;";
    private static final Due due = new Due();

    public static void main(String[] args) {
        wouldFall();
        whereItStays();
        balls();
        spare();
        allDown();
        allDownByMore();
        mend();
        hand();
        ask();
        calm();
        nothingChanges();
        followsWhatIsDone();
        withoutCounty();
        due.end();
    }

    private static void wouldFall() {
        SkittleGentry x = Due.with(Due.NINE);
        due.is("who, PACE 8", x.wouldFall(2, 1, 8, 0), 7);
        due.is("who ROCK, each time, PACE 8", x.wouldFall(2, 1, 8, 1), 5);
        due.is("where, PACE 8", x.wouldFall(2, 1, 8, 2), 2);
        due.is("who, PACE 40", x.wouldFall(2, 1, 40, 0), 511);
        due.is("where, PACE 40", x.wouldFall(2, 1, 40, 2), NONE);
        due.is("what = 3", x.wouldFall(2, 1, 8, 3), OUTSIDE);
        due.is("what = -1", x.wouldFall(2, 1, 8, -1), OUTSIDE);
        due.is("LINE 5", x.wouldFall(5, 1, 8, 0), OUTSIDE);
        due.is("SLANT 3", x.wouldFall(2, 3, 8, 0), OUTSIDE);
        due.is("PACE 0", x.wouldFall(2, 1, 0, 0), OUTSIDE);
        due.is("PACE 41", x.wouldFall(2, 1, 41, 0), OUTSIDE);
    }

    private static void whereItStays() {
        SkittleGentry bare = Due.with("g3;");
        for (int pace = 1; pace <= 5; pace++) {
            due.is("drag 1, PACE " + pace, bare.wouldFall(0, 0, pace, 2), pace - 1);
        }
        due.is("drag 1, PACE 6", bare.wouldFall(0, 0, 6, 2), NONE);
        SkittleGentry x = Due.with(ONE);
        due.is("it ROCKS and the BALL stays", x.wouldFall(2, 1, 4, 2), 0);
        due.is("it ROCKS once", x.wouldFall(2, 1, 4, 1), 1);
        due.is("PACE 5 less 2 and 1 goes on", x.wouldFall(2, 1, 5, 2), NONE);
        due.is("nobody in the way", x.wouldFall(1, 1, 1, 2), NONE);
        SkittleGentry light = Due.with(Due.LIGHT);
        due.is("PACE 1 is used up in ROW 0", light.wouldFall(2, 1, 1, 2), 0);
        due.is("PACE 2 is used up in ROW 2", light.wouldFall(2, 1, 2, 2), 2);
        due.is("PACE 3 is used up in ROW 4", light.wouldFall(2, 1, 3, 2), 4);
    }

    private static void balls() {
        SkittleGentry x = Due.with(Due.NINE);
        due.is("balls(0, 0)", x.balls(0, 0), 287);
        due.is("balls(0, 1)", x.balls(0, 1), 1);
        due.is("balls(1, 0)", x.balls(1, 0), 0);
        due.is("balls(1, 1)", x.balls(1, 1), NONE);
        due.is("balls(32, 0)", x.balls(32, 0), 1);
        due.is("balls(32, 1)", x.balls(32, 1), 4105);
        due.is("balls(512, 0)", x.balls(512, 0), UNKNOWN);
        due.is("balls(-1, 2)", x.balls(-1, 2), UNKNOWN);
        due.is("balls(0, 2)", x.balls(0, 2), OUTSIDE);
        due.is("balls(0, -1)", x.balls(0, -1), OUTSIDE);
        SkittleGentry one = Due.with(ONE);
        due.is("one: balls(1, 0)", one.balls(1, 0), 3 * 36);
        due.is("one: balls(1, 1)", one.balls(1, 1), 2005);
        due.is("one: balls(0, 0)", one.balls(0, 0), 600 - 3 * 36);
        due.is("one: balls(2, 0)", one.balls(2, 0), UNKNOWN);
        SkittleGentry light = Due.with(Due.LIGHT);
        due.is("light: balls(511, 0)", light.balls(511, 0), 83);
        due.is("light: balls(511, 1)", light.balls(511, 1), 2016);
    }

    private static void spare() {
        SkittleGentry x = Due.with(Due.NINE);
        due.is("spare(1, 0)", x.spare(1, 0), 2008);
        due.is("spare(1, 6)", x.spare(1, 6), NONE);
        due.is("spare(0, 0)", x.spare(0, 0), 1);
        due.is("spare(256, 0)", x.spare(256, 0), 2129);
        due.is("spare(511, 0)", x.spare(511, 0), 2140);
        due.is("one in both", x.spare(1, 1), NONE);
        due.is("spare(512, 0)", x.spare(512, 0), UNKNOWN);
        due.is("spare(0, 512)", x.spare(0, 512), UNKNOWN);
        due.is("spare(0, -1)", x.spare(0, -1), UNKNOWN);
        due.is("less PACE ahead of a less number", Due.with(Due.LIGHT).spare(511, 0), 2108);
        x.ball(2, 1, 8);
        due.is("one that lies cannot FALL", x.spare(1, 0), NONE);
        due.is("one that lies does not FALL", x.spare(0, 1), 1);
    }

    private static void allDown() {
        SkittleGentry x = Due.with(Due.NINE);
        due.is("allDown(0)", x.allDown(0), 1);
        due.is("allDown(1)", x.allDown(1), 2140);
        due.is("allDown(2)", x.allDown(2), OUTSIDE);
        due.is("allDown(-1)", x.allDown(-1), OUTSIDE);
        SkittleGentry light = Due.with(Due.LIGHT);
        light.ball(2, 1, 40);
        due.is("none is needed", light.allDown(0), 0);
        due.is("the first of none", light.allDown(1), NONE);
        SkittleGentry bare = Due.with("g0;");
        due.is("of no SKITTLES", bare.allDown(0), 0);
        due.is("the first, of no SKITTLES", bare.allDown(1), NONE);
    }

    /** 0 alone on PLATE 3, 1 alone on PLATE 5: no BALL meets both, and the BALL at PLATE 3 has the less number. */
    private static void allDownByMore() {
        SkittleGentry x = Due.with("g0;s0 7 0;s0 4 0;");
        x.change(0, 3);
        x.change(1, 5);
        due.is("two that lie apart", x.allDown(0), 2);
        due.is("the least number that can be the first", x.allDown(1), 107);
        x.ball(0, 1, 7);
        due.is("one is left", x.allDown(0), 1);
        due.is("the first for that", x.allDown(1), 2204);
        SkittleGentry heavy = Due.with("g9;" + "s0 20 0;".repeat(9));
        due.is("nine heavy ones", heavy.allDown(0), 5);
        int first = heavy.allDown(1);
        heavy.ball(first / 1000, first / 100 % 10, first % 100);
        due.is("behind the first of them", heavy.allDown(0), 4);
    }

    private static void mend() {
        SkittleGentry x = Due.with(Due.NINE);
        due.is("mend(2, 1, 40, 0)", x.mend(2, 1, 40, 0), 6);
        due.is("mend(2, 1, 40, 1)", x.mend(2, 1, 40, 1), 8);
        due.is("mend(0, 2, 20, 0)", x.mend(0, 2, 20, 0), 18);
        due.is("mend(0, 2, 20, 1)", x.mend(0, 2, 20, 1), 0);
        due.is("none FALLS anyway: the least", x.mend(4, 2, 1, 0), 1);
        due.is("mend what = 2", x.mend(2, 1, 40, 2), OUTSIDE);
        due.is("mend what = -1", x.mend(2, 1, 40, -1), OUTSIDE);
        due.is("mend LINE", x.mend(-1, 1, 40, 0), OUTSIDE);
        due.is("mend SLANT", x.mend(2, -1, 40, 0), OUTSIDE);
        due.is("mend PACE", x.mend(2, 1, 0, 0), OUTSIDE);
        SkittleGentry one = Due.with(ONE);
        due.is("to an empty PLATE", one.mend(2, 1, 40, 0), 1);
        due.is("none FALLS then", one.mend(2, 1, 40, 1), 0);
        SkittleGentry light = Due.with(Due.LIGHT);
        due.is("all FALL anyway: the least", light.mend(2, 1, 40, 0), 1);
        due.is("all FALL anyway: all", light.mend(2, 1, 40, 1), 9);
        // A saint off PLATE 0 BEARS 2 less, and one on it 2 more.
        SkittleGentry saints = Due.with("g0;s0 5 0;s2 5 0;");
        due.is("a saint in front", saints.mend(2, 1, 6, 0), 1);
        due.is("none FALLS by a saint", saints.mend(2, 1, 6, 1), 0);
    }

    private static void hand() {
        SkittleGentry x = Due.with(Due.NINE);
        due.is("hand(0)", x.hand(0), 31);
        due.is("hand(1)", x.hand(1), 0);
        due.is("hand(32)", x.hand(32), 16);
        due.is("hand(512)", x.hand(512), UNKNOWN);
        due.is("hand(-1)", x.hand(-1), UNKNOWN);
        SkittleGentry one = Due.with(ONE);
        due.is("one: hand(1)", one.hand(1), 4);
        one.change(0, 4);
        due.is("one in the middle: hand(1)", one.hand(1), 1 | 4 | 16);
    }

    private static void ask() {
        SkittleGentry x = Due.with(Due.NINE);
        due.is("ask(0)", x.ask(0), 3);
        due.is("ask(2)", x.ask(2), 4);
        due.is("ask(4)", x.ask(4), 7);
        due.is("ask(5)", x.ask(5), OUTSIDE);
        due.is("ask(-1)", x.ask(-1), OUTSIDE);
        SkittleGentry one = Due.with("g0;s0 1 0;");
        due.is("it always FALLS", one.ask(2), NONE);
        due.is("it never FALLS", one.ask(1), NONE);
        // It FALLS by all but one PACE of each SLANT, and that parts them too.
        SkittleGentry two = Due.with("g0;s0 2 0;");
        due.is("it parts a few", two.ask(2), 0);
        SkittleGentry alike = Due.with("g0;s0 1 0;s0 4 0;s0 4 0;");
        due.is("of like ones the least", alike.ask(2), 1);
    }

    private static void calm() {
        SkittleGentry x = new SkittleGentry();
        due.is("calm(0, 0)", x.calm(0, 0), 1000000000);
        due.is("calm(1, 0)", x.calm(1, 0), 0);
        due.is("calm(1, 50)", x.calm(1, 50), 500000000);
        due.is("calm(3, 90)", x.calm(3, 90), 729000000);
        due.is("calm(60, 100)", x.calm(60, 100), 1000000000);
        // 33%: 330000000, 108900000, 35937000, 11859210, 3913539 (of .3), 1291467 (of .87)
        due.is("calm(6, 33)", x.calm(6, 33), 1291467);
        due.is("calm(60, 1)", x.calm(60, 1), 0);
        due.is("calm(61, 50)", x.calm(61, 50), OUTSIDE);
        due.is("calm(-1, 50)", x.calm(-1, 50), OUTSIDE);
        due.is("calm(1, 101)", x.calm(1, 101), OUTSIDE);
        due.is("calm(1, -1)", x.calm(1, -1), OUTSIDE);
    }

    private static void nothingChanges() {
        SkittleGentry x = Due.with(Due.NINE);
        x.wouldFall(2, 1, 8, 0);
        x.balls(7, 0);
        x.spare(1, 0);
        x.allDown(0);
        x.mend(2, 1, 40, 0);
        x.hand(7);
        x.ask(2);
        for (int what = 0; what < 14; what++) {
            x.told(what);
        }
        due.is("tried: told(3)", x.told(3), 511);
        due.is("tried: told(4)", x.told(4), 0);
        due.is("tried: told(13)", x.told(13), 0);
        for (int s = 0; s < 9; s++) {
            due.is("tried: PLATE of " + s, x.skittle(s, 3), s);
            due.is("tried: ROCKED of " + s, x.skittle(s, 5), 0);
            due.is("tried: TAKEN of " + s, x.skittle(s, 6), NONE);
        }
        x.ball(2, 1, 7);
        due.is("what was tried is not counted later", x.skittle(4, 5), 0);
    }

    /** Every call that changes something must change what is tried behind it. */
    private static void followsWhatIsDone() {
        SkittleGentry x = Due.with(ONE);
        due.is("at first", tried(x), 1082005);
        x.chip(0, 4);
        due.is("behind chip()", tried(x), 1202001);
        x.undo();
        due.is("behind undo()", tried(x), 1082005);
        x.replace(0);
        due.is("behind replace()", tried(x), 1172002);
        x.keep(0);
        x.change(0, 3);
        due.is("behind change()", tried(x), 780102);
        x.goBack(0);
        due.is("behind goBack()", tried(x), 1172002);
        x.ball(2, 1, 40);
        due.is("behind ball()", tried(x), NONE);
        x.lift(0);
        due.is("behind lift()", tried(x), 1172002);
        x.ball(2, 1, 40);
        tried(x);
        x.setUp();
        due.is("behind setUp()", tried(x), 1172002);
        Due.feed(x, "g0;s0 20 0;");
        x.county();
        due.is("behind county()", tried(x), 632020);
        SkittleGentry drifts = Due.with(Due.NINE);
        drifts.seed(5);
        due.is("ahead of drift()", drifts.told(10), 287);
        drifts.drift(3);
        PlainModel plain = new PlainModel();
        for (int i = 0; i < Due.NINE.length(); i++) {
            plain.feed(Due.NINE.charAt(i));
        }
        plain.county();
        plain.seed(5);
        plain.drift(3);
        due.is("behind drift()", drifts.told(10), plain.told(10));
        due.holds("which is another then", drifts.told(10) != 287);
    }

    /** 10000 times by how many BALLS the one SKITTLE FALLS, and the first of a row by which all lie. */
    private static int tried(SkittleGentry x) {
        return x.allDown(0) == 0 ? NONE : 10000 * x.balls(1, 0) + x.allDown(1);
    }

    private static void withoutCounty() {
        SkittleGentry x = new SkittleGentry();
        due.is("wouldFall()", x.wouldFall(0, 0, 1, 0), NOT);
        due.is("wouldFall() OUTSIDE", x.wouldFall(0, 0, 1, 3), OUTSIDE);
        due.is("balls(0, 0)", x.balls(0, 0), NOT);
        due.is("balls(1, 9)", x.balls(1, 9), UNKNOWN);
        due.is("balls(0, 9)", x.balls(0, 9), OUTSIDE);
        due.is("spare(0, 0)", x.spare(0, 0), NOT);
        due.is("spare(0, 1)", x.spare(0, 1), UNKNOWN);
        due.is("allDown(0)", x.allDown(0), NOT);
        due.is("allDown(2)", x.allDown(2), OUTSIDE);
        due.is("mend()", x.mend(0, 0, 1, 0), NOT);
        due.is("mend() OUTSIDE", x.mend(0, 0, 41, 0), OUTSIDE);
        due.is("hand(0)", x.hand(0), NOT);
        due.is("hand(1)", x.hand(1), UNKNOWN);
        due.is("ask(0)", x.ask(0), NOT);
        due.is("ask(5)", x.ask(5), OUTSIDE);
    }
}
