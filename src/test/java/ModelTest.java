import java.util.Random;

/** All promises: random runs of calls, each answer compared with that of PlainModel. */
public final class ModelTest {
    private static final int RUNS = 400;
    private static final int CALLS = 512;
    private static final Due due = new Due();

    private final Random random;
    private final int run;
    private final SkittleGentry x = new SkittleGentry();
    private final PlainModel m = new PlainModel();
    private int calls;

    private ModelTest(int run) {
        this.run = run;
        this.random = new Random(run);
    }

    public static void main(String[] args) {
        int runs = args.length > 0 ? Integer.parseInt(args[0]) : RUNS;
        for (int run = 0; run < runs && due.wrong() < 20; run++) {
            new ModelTest(run).go();
        }
        due.end();
    }

    private void go() {
        if (random.nextInt(4) > 0) {
            text(anyText());
        }
        while (calls < CALLS) {
            switch (random.nextInt(8)) {
                case 0: county(); break;
                case 1: case 2: case 3: done(); break;
                case 4: case 5: tried(); break;
                case 6: look(); break;
                default: bookAndImages();
            }
        }
    }

    private void same(String call, int got, int want) {
        calls++;
        due.is("run " + run + ", call " + calls + ": " + call, got, want);
    }

    private void text(String text) {
        for (int i = 0; i < text.length(); i++) {
            same("feed()", x.feed(text.charAt(i)), m.feed(text.charAt(i)));
        }
        same("county() of '" + text + "'", x.county(), m.county());
        same("fault() of '" + text + "'", x.fault(), m.fault());
    }

    private String anyText() {
        StringBuilder t = new StringBuilder("g").append(random.nextInt(10)).append(';');
        int n = random.nextInt(3) > 0 ? 9 : random.nextInt(11);
        int most = 1 + random.nextInt(20);
        for (int i = 0; i < n; i++) {
            t.append(random.nextInt(5) == 0 ? " s" : "s").append(random.nextInt(4)).append(' ')
                .append(1 + random.nextInt(most)).append(' ').append(random.nextInt(10)).append(';');
        }
        if (random.nextInt(6) == 0) {
            for (int i = random.nextInt(3); i >= 0; i--) {
                int at = random.nextInt(t.length());
                char sign = "gs;0 129x".charAt(random.nextInt(9));
                if (random.nextBoolean()) {
                    t.insert(at, sign);
                } else {
                    t.setCharAt(at, sign);
                }
            }
        }
        return t.toString();
    }

    private void county() {
        switch (random.nextInt(24)) {
            case 0: text(anyText()); break;
            case 1: text("   ".substring(random.nextInt(4))); break;
            case 2: text("g0;s0 1 0;".substring(0, random.nextInt(11))); break;
            case 3: same("feed(256)", x.feed(256), m.feed(256)); break;
            case 4: {
                int letter = random.nextInt(256);
                same("feed(" + letter + ")", x.feed(letter), m.feed(letter));
                break;
            }
            default: {
                int what = random.nextInt(16) - 1;
                same("told(" + what + ")", x.told(what), m.told(what));
            }
        }
    }

    /** Mostly a SKITTLE or a PLATE, now and then none. */
    private int any() {
        return random.nextInt(16) == 0 ? random.nextInt(14) - 3 : random.nextInt(9);
    }

    private int bound(int least, int most) {
        return random.nextInt(24) == 0 ? (random.nextBoolean() ? least - 1 : most + 1)
            : least + random.nextInt(most - least + 1);
    }

    private void done() {
        int a = any();
        int b = any();
        switch (random.nextInt(12)) {
            case 0: same("setUp()", x.setUp(), m.setUp()); break;
            case 1: same("lift(" + a + ")", x.lift(a), m.lift(a)); break;
            case 2: case 3: same("change(" + a + ", " + b + ")", x.change(a, b), m.change(a, b)); break;
            case 4: {
                int c = bound(0, 9);
                same("chip(" + a + ", " + c + ")", x.chip(a, c), m.chip(a, c));
                break;
            }
            case 5: same("replace(" + a + ")", x.replace(a), m.replace(a)); break;
            case 6: {
                int n = bound(1, 30);
                same("drift(" + n + ")", x.drift(n), m.drift(n));
                break;
            }
            case 7: case 8: same("undo()", x.undo(), m.undo()); break;
            default: {
                int line = bound(0, 4);
                int slant = bound(0, 2);
                int pace = bound(1, 40);
                same("ball(" + line + ", " + slant + ", " + pace + ")", x.ball(line, slant, pace),
                    m.ball(line, slant, pace));
            }
        }
    }

    private int anySet() {
        switch (random.nextInt(12)) {
            case 0: return 1 << random.nextInt(32);
            case 1: return 0;
            case 2: return random.nextInt(512);
            case 3: return x.wouldFall(random.nextInt(5), random.nextInt(3), 1 + random.nextInt(40), 0);
            default: return Math.max(0, m.wouldFall(random.nextInt(5), random.nextInt(3), 1 + random.nextInt(40), 0));
        }
    }

    private void tried() {
        int line = bound(0, 4);
        int slant = bound(0, 2);
        int pace = bound(1, 40);
        String ball = line + ", " + slant + ", " + pace + ", ";
        int what = bound(0, 1);
        int set = anySet();
        switch (random.nextInt(8)) {
            case 0: {
                what = bound(0, 2);
                same("wouldFall(" + ball + what + ")", x.wouldFall(line, slant, pace, what),
                    m.wouldFall(line, slant, pace, what));
                break;
            }
            case 1: same("balls(" + set + ", " + what + ")", x.balls(set, what), m.balls(set, what)); break;
            case 2: {
                int fall = set & random.nextInt();
                int stand = random.nextInt(512) & random.nextInt(512) & (random.nextInt(4) == 0 ? -1 : ~fall);
                same("spare(" + fall + ", " + stand + ")", x.spare(fall, stand), m.spare(fall, stand));
                break;
            }
            case 3: {
                if (random.nextInt(8) == 0) {
                    same("allDown(" + what + ")", x.allDown(what), m.allDown(what));
                }
                break;
            }
            case 4: same("mend(" + ball + what + ")", x.mend(line, slant, pace, what),
                m.mend(line, slant, pace, what)); break;
            case 5: same("hand(" + set + ")", x.hand(set), m.hand(set)); break;
            case 6: same("ask(" + line + ")", x.ask(line), m.ask(line)); break;
            default: {
                int n = bound(0, 60);
                int q = random.nextBoolean() ? bound(0, 100) : bound(90, 100);
                same("calm(" + n + ", " + q + ")", x.calm(n, q), m.calm(n, q));
            }
        }
    }

    private void look() {
        int s = any();
        int what = bound(0, 8);
        same("skittle(" + s + ", " + what + ")", x.skittle(s, what), m.skittle(s, what));
        same("plate(" + s + ")", x.plate(s), m.plate(s));
        same("told(3)", x.told(3), m.told(3));
    }

    private void bookAndImages() {
        int s = any();
        switch (random.nextInt(10)) {
            case 0: case 1: case 2: {
                boolean stands = random.nextInt(8) == 0 ? random.nextBoolean() : x.skittle(s, 4) == 1;
                same("write(" + s + ", " + stands + ")", x.write(s, stands), m.write(s, stands));
                break;
            }
            case 3: case 4: case 5: same("judge()", x.judge(), m.judge()); break;
            case 6: {
                if (random.nextInt(4) == 0) {
                    same("tear()", x.tear(), m.tear());
                }
                break;
            }
            case 7: {
                int v = random.nextInt(4) == 0 ? random.nextInt() : random.nextInt(1000);
                same("seed(" + v + ")", x.seed(v), m.seed(v));
                break;
            }
            case 8: {
                int i = bound(0, 1);
                if (random.nextInt(3) == 0) {
                    same("keep(" + i + ")", x.keep(i), m.keep(i));
                }
                break;
            }
            default: {
                int i = bound(0, 1);
                if (random.nextInt(3) == 0) {
                    same("goBack(" + i + ")", x.goBack(i), m.goBack(i));
                }
            }
        }
    }
}
