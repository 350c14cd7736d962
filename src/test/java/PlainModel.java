import java.util.ArrayDeque;
import java.util.ArrayList;
import java.util.Arrays;
import java.util.Deque;
import java.util.HashMap;
import java.util.List;
import java.util.Map;

/** The document once more, written as plainly as the Java library lets it, to be compared with the class. */
final class PlainModel {
    static final int NONE = -1;
    static final int UNKNOWN = -1000000001;
    static final int OUTSIDE = -1000000002;
    static final int NOT = -1000000003;
    static final int FULL = -1000000004;
    private static final int[][] PLACES = {
        {0, 2}, {1, 1}, {1, 3}, {2, 0}, {2, 2}, {2, 4}, {3, 1}, {3, 3}, {4, 2}};

    private static final class Skittle {
        int kind;
        int weight;
        int chip;
        int plate;
        boolean stands = true;
        int rocked;
        int taken = NONE;

        Skittle same() {
            Skittle s = new Skittle();
            s.kind = kind;
            s.weight = weight;
            s.chip = chip;
            s.plate = plate;
            s.stands = stands;
            s.rocked = rocked;
            s.taken = taken;
            return s;
        }

        int bears() {
            int b;
            switch (kind) {
                case 0: b = weight - chip; break;
                case 1: b = weight - chip / 2; break;
                case 2: b = weight - chip + (PLACES[plate][0] == 0 ? 2 : 0); break;
                default: b = weight / 2;
            }
            return b < 1 ? 1 : b;
        }
    }

    private static final class World {
        int floor = NONE;
        int thrown;
        int floorers;
        List<Skittle> skittles = new ArrayList<>();

        World same() {
            World w = new World();
            w.floor = floor;
            w.thrown = thrown;
            w.floorers = floorers;
            for (Skittle s : skittles) {
                w.skittles.add(s.same());
            }
            return w;
        }

        int at(int row, int column) {
            for (int i = 0; i < skittles.size(); i++) {
                int[] place = PLACES[skittles.get(i).plate];
                if (place[0] == row && place[1] == column) {
                    return i;
                }
            }
            return NONE;
        }

        int on(int p) {
            return at(PLACES[p][0], PLACES[p][1]);
        }

        int standing() {
            int set = 0;
            for (int i = 0; i < skittles.size(); i++) {
                set |= skittles.get(i).stands ? 1 << i : 0;
            }
            return set;
        }

        void stand(int set) {
            for (int i = 0; i < skittles.size(); i++) {
                skittles.get(i).stands = (set >> i & 1) == 1;
            }
        }

        void change(int p, int q) {
            int s = on(p);
            int t = on(q);
            if (s != NONE) {
                skittles.get(s).plate = q;
            }
            if (t != NONE) {
                skittles.get(t).plate = p;
            }
        }

        /** Answers: who falls, how many rock, where it stays. */
        int[] thrown(int line, int slant, int pace) {
            int before = standing();
            int rocks = 0;
            int stays = NONE;
            int column = line;
            for (int row = 0; row < 5; row++, column += slant - 1) {
                int i = at(row, column);
                if (i != NONE && skittles.get(i).stands) {
                    Skittle s = skittles.get(i);
                    int bears = s.bears();
                    rocks += hit(i, pace);
                    if (s.stands) {
                        stays = row;
                        break;
                    }
                    pace = pace - bears / 2 - 1;
                }
                pace -= floor / 3;
                if (pace <= 0) {
                    stays = row;
                    break;
                }
            }
            thrown++;
            int after = standing();
            if (Integer.bitCount(before) == 9 && after == 0) {
                floorers++;
            }
            return new int[] {before & ~after, rocks, stays};
        }

        /** What is still to be struck lies on a pile: {row, column, n, by}; who falls puts two on top. */
        private int hit(int first, int n) {
            int rocks = 0;
            Deque<int[]> pile = new ArrayDeque<>();
            int[] place = PLACES[skittles.get(first).plate];
            pile.push(new int[] {place[0], place[1], n, NONE});
            while (!pile.isEmpty()) {
                int[] strike = pile.pop();
                int i = at(strike[0], strike[1]);
                if (i == NONE || !skittles.get(i).stands || strike[2] < 1) {
                    continue;
                }
                Skittle s = skittles.get(i);
                if (strike[2] >= s.bears()) {
                    s.stands = false;
                    s.taken = strike[3];
                    pile.push(new int[] {strike[0] + 1, strike[1] + 1, strike[2] / 2, i});
                    pile.push(new int[] {strike[0] + 1, strike[1] - 1, strike[2] / 2, i});
                } else {
                    rocks++;
                    if (s.rocked < 9999) {
                        s.rocked++;
                    }
                }
            }
            return rocks;
        }
    }

    private final StringBuilder text = new StringBuilder();
    private World world = new World();
    private final List<World> past = new ArrayList<>();
    private final World[] images = new World[2];
    private final int[] seeds = new int[2];
    private final List<int[]> book = new ArrayList<>();
    private int seed;
    private int fault = NONE;

    // ---- the county

    int feed(int letter) {
        if (letter < 0 || letter > 255) {
            return OUTSIDE;
        }
        if (text.length() == 240) {
            return FULL;
        }
        text.append((char) letter);
        return text.length();
    }

    /** Tokens first, then what may follow what: another way than the class has. */
    int county() {
        String t = text.toString();
        text.setLength(0);
        fault = NONE;
        World w = new World();
        List<Integer> numbers = new ArrayList<>();
        String open = "";
        boolean told = false;
        int i = 0;
        while (i <= t.length()) {
            if (i < t.length() && t.charAt(i) == ' ') {
                i++;
                continue;
            }
            if (i == t.length()) {
                if (!open.isEmpty()) {
                    return failed(1, i);
                }
                break;
            }
            char c = t.charAt(i);
            int wanted = open.equals("g") ? 1 : open.equals("s") ? 3 : 0;
            if (c >= '0' && c <= '9') {
                if (numbers.size() >= wanted) {
                    return failed(1, i);
                }
                int end = i;
                while (end < t.length() && t.charAt(end) >= '0' && t.charAt(end) <= '9') {
                    end++;
                }
                int[] least = {0, 1, 0};
                int[] most = open.equals("g") ? new int[] {9} : new int[] {3, 20, 9};
                int value = end - i > 3 ? 1000 : Integer.parseInt(t.substring(i, end));
                if (value < least[numbers.size()] || value > most[numbers.size()]) {
                    return failed(2, i);
                }
                numbers.add(value);
                i = end;
            } else if (c == ';' && !open.isEmpty() && numbers.size() == wanted) {
                close(w, open, numbers);
                open = "";
                i++;
            } else if (c == 'g' && open.isEmpty()) {
                if (told) {
                    return failed(3, i);
                }
                told = true;
                open = "g";
                i++;
            } else if (c == 's' && open.isEmpty() && told) {
                if (w.skittles.size() == 9) {
                    return failed(3, i);
                }
                open = "s";
                i++;
            } else {
                return failed(1, i);
            }
        }
        world = w;
        past.clear();
        book.clear();
        Arrays.fill(images, null);
        return w.skittles.size();
    }

    private static void close(World w, String open, List<Integer> numbers) {
        if (open.equals("g")) {
            w.floor = numbers.get(0);
        } else {
            Skittle s = new Skittle();
            s.kind = numbers.get(0);
            s.weight = numbers.get(1);
            s.chip = numbers.get(2);
            s.plate = w.skittles.size();
            w.skittles.add(s);
        }
        numbers.clear();
    }

    private int failed(int number, int at) {
        fault = at;
        return -10 - number;
    }

    int fault() {
        return fault;
    }

    int told(int what) {
        if (what < 0 || what > 13) {
            return OUTSIDE;
        }
        if (what >= 6 && what <= 10 && world.floor == NONE) {
            return NONE;
        }
        switch (what) {
            case 0: return world.floor;
            case 1: return world.skittles.size();
            case 2: return text.length();
            case 3: return world.standing();
            case 4: return world.thrown;
            case 5: return world.floorers;
            case 6: return worst()[0];
            case 7: return worst()[1];
            case 8: return safest()[0];
            case 9: return safest()[1];
            case 10: return balls(0, 0);
            case 11: return talk();
            case 12: return book.size();
            default: return past.size();
        }
    }

    private int talk() {
        int n = 0;
        for (Skittle s : world.skittles) {
            for (Skittle t : world.skittles) {
                int[] p = PLACES[s.plate];
                int[] q = PLACES[t.plate];
                if (!s.stands && !t.stands && q[0] == p[0] + 1 && Math.abs(q[1] - p[1]) == 1) {
                    n++;
                }
            }
        }
        return n;
    }

    private int[] worst() {
        int[] best = {NONE, -1};
        for (int number : numbers()) {
            int n = Integer.bitCount(fallenBy(world, number));
            if (n > best[1]) {
                best = new int[] {number, n};
            }
        }
        return best;
    }

    private int[] safest() {
        int[] best = {NONE, NONE};
        for (int s = 0; s < world.skittles.size(); s++) {
            if (!world.skittles.get(s).stands) {
                continue;
            }
            int n = 0;
            for (int number : numbers()) {
                n += fallenBy(world, number) >> s & 1;
            }
            if (best[0] == NONE || n < best[1]) {
                best = new int[] {s, n};
            }
        }
        return best;
    }

    private static int[] numbers() {
        int[] all = new int[600];
        int n = 0;
        for (int line = 0; line < 5; line++) {
            for (int slant = 0; slant < 3; slant++) {
                for (int pace = 1; pace <= 40; pace++) {
                    all[n++] = 1000 * line + 100 * slant + pace;
                }
            }
        }
        return all;
    }

    private static int fallenBy(World w, int number) {
        return w.same().thrown(number / 1000, number / 100 % 10, number % 100)[0];
    }

    int skittle(int s, int what) {
        if (unknown(s)) {
            return UNKNOWN;
        }
        Skittle k = world.skittles.get(s);
        switch (what) {
            case 0: return k.kind;
            case 1: return k.weight;
            case 2: return k.chip;
            case 3: return k.plate;
            case 4: return k.stands ? 1 : 0;
            case 5: return k.rocked;
            case 6: return k.taken;
            case 7: return first(s, 9);
            case 8: return k.bears();
            default: return OUTSIDE;
        }
    }

    private int first(int s, int steps) {
        int by = world.skittles.get(s).taken;
        return by == NONE || steps == 0 ? s : first(by, steps - 1);
    }

    private boolean unknown(int s) {
        return s < 0 || s >= world.skittles.size();
    }

    private boolean unknownSet(int set) {
        return (set & -(1 << world.skittles.size())) != 0;
    }

    private static boolean unknownPlate(int p) {
        return p < 0 || p > 8;
    }

    int plate(int p) {
        return unknownPlate(p) ? UNKNOWN : world.on(p);
    }

    // ---- what is done

    private void remember() {
        past.add(world.same());
        if (past.size() > 16) {
            past.remove(0);
        }
    }

    private static boolean outside(int line, int slant, int pace) {
        return line < 0 || line > 4 || slant < 0 || slant > 2 || pace < 1 || pace > 40;
    }

    int ball(int line, int slant, int pace) {
        if (outside(line, slant, pace)) {
            return OUTSIDE;
        }
        if (world.floor == NONE) {
            return NOT;
        }
        remember();
        return world.thrown(line, slant, pace)[0];
    }

    int setUp() {
        if (world.floor == NONE) {
            return NOT;
        }
        remember();
        int lay = world.skittles.size() - Integer.bitCount(world.standing());
        world.stand(511);
        return lay;
    }

    int lift(int s) {
        if (unknown(s)) {
            return UNKNOWN;
        }
        if (world.skittles.get(s).stands) {
            return NOT;
        }
        remember();
        world.skittles.get(s).stands = true;
        return Integer.bitCount(world.standing());
    }

    int change(int p, int q) {
        if (unknownPlate(p) || unknownPlate(q) || p == q) {
            return UNKNOWN;
        }
        remember();
        world.change(p, q);
        return world.on(p);
    }

    int chip(int s, int c) {
        if (unknown(s)) {
            return UNKNOWN;
        }
        if (c < 0 || c > 9) {
            return OUTSIDE;
        }
        remember();
        int was = world.skittles.get(s).chip;
        world.skittles.get(s).chip = c;
        return was;
    }

    int replace(int s) {
        if (unknown(s)) {
            return UNKNOWN;
        }
        if (world.skittles.get(s).kind == 3) {
            return NOT;
        }
        remember();
        int was = world.skittles.get(s).kind;
        world.skittles.get(s).kind = 3;
        return was;
    }

    private int draw(int n) {
        seed = (int) Math.floorMod(1103515245L * seed + 12345L, 1L << 31);
        return seed / 65536 % n;
    }

    int drift(int n) {
        if (n < 1 || n > 30) {
            return OUTSIDE;
        }
        if (world.floor == NONE) {
            return NOT;
        }
        remember();
        for (int i = 0; i < n; i++) {
            int d = draw(4);
            if (d < 2) {
                int line = draw(5);
                int slant = draw(3);
                world.thrown(line, slant, draw(40) + 1);
            } else if (d == 2) {
                world.stand(511);
            } else {
                int p = draw(9);
                int q = draw(9);
                if (p != q) {
                    world.change(p, q);
                }
            }
        }
        return world.standing();
    }

    int undo() {
        if (past.isEmpty()) {
            return NOT;
        }
        world = past.remove(past.size() - 1);
        return past.size();
    }

    // ---- tried

    int wouldFall(int line, int slant, int pace, int what) {
        if (outside(line, slant, pace) || what < 0 || what > 2) {
            return OUTSIDE;
        }
        return world.floor == NONE ? NOT : world.same().thrown(line, slant, pace)[what];
    }

    int balls(int set, int what) {
        if (unknownSet(set)) {
            return UNKNOWN;
        }
        if (what < 0 || what > 1) {
            return OUTSIDE;
        }
        if (world.floor == NONE) {
            return NOT;
        }
        List<Integer> fit = fitting(set);
        return what == 0 ? fit.size() : fit.isEmpty() ? NONE : fit.get(0);
    }

    private List<Integer> fitting(int set) {
        List<Integer> fit = new ArrayList<>();
        for (int number : numbers()) {
            if (fallenBy(world, number) == set) {
                fit.add(number);
            }
        }
        return fit;
    }

    int spare(int fall, int stand) {
        if (unknownSet(fall) || unknownSet(stand)) {
            return UNKNOWN;
        }
        if (world.floor == NONE) {
            return NOT;
        }
        int best = NONE;
        for (int number : numbers()) {
            int fallen = fallenBy(world, number);
            boolean fits = (fall & ~fallen) == 0 && (stand & fallen) == 0;
            if (fits && (best == NONE || number % 100 < best % 100)) {
                best = number;
            }
        }
        return best;
    }

    int allDown(int what) {
        if (what < 0 || what > 1) {
            return OUTSIDE;
        }
        if (world.floor == NONE) {
            return NOT;
        }
        Map<Integer, int[]> known = new HashMap<>();
        return fewest(world.same(), world.standing(), known)[what];
    }

    /** From behind, SET by SET: {how many, the first}. */
    private static int[] fewest(World w, int standing, Map<Integer, int[]> known) {
        int[] best = known.get(standing);
        if (best != null) {
            return best;
        }
        best = standing == 0 ? new int[] {0, NONE} : new int[] {NONE, NONE};
        for (int number : standing == 0 ? new int[0] : numbers()) {
            w.stand(standing);
            int fallen = w.thrown(number / 1000, number / 100 % 10, number % 100)[0];
            if (fallen != 0) {
                int rest = fewest(w, standing & ~fallen, known)[0];
                if (rest != NONE && (best[0] == NONE || rest + 1 < best[0])) {
                    best = new int[] {rest + 1, number};
                }
            }
        }
        known.put(standing, best);
        return best;
    }

    int mend(int line, int slant, int pace, int what) {
        if (outside(line, slant, pace) || what < 0 || what > 1) {
            return OUTSIDE;
        }
        if (world.floor == NONE) {
            return NOT;
        }
        int[] best = {NONE, 10};
        for (int two = 1; two < 79; two++) {
            int p = two / 10;
            int q = two % 10;
            if (p < q && q < 9) {
                World w = world.same();
                w.change(p, q);
                int n = Integer.bitCount(w.thrown(line, slant, pace)[0]);
                if (n < best[1]) {
                    best = new int[] {two, n};
                }
            }
        }
        return best[what];
    }

    int hand(int set) {
        if (unknownSet(set)) {
            return UNKNOWN;
        }
        if (world.floor == NONE) {
            return NOT;
        }
        int lines = 0;
        for (int number : fitting(set)) {
            lines |= 1 << number / 1000;
        }
        return lines;
    }

    int ask(int line) {
        if (line < 0 || line > 4) {
            return OUTSIDE;
        }
        if (world.floor == NONE) {
            return NOT;
        }
        int best = NONE;
        int least = 120;
        for (int s = 0; s < world.skittles.size(); s++) {
            int[] parts = new int[2];
            for (int number : numbers()) {
                if (number / 1000 == line) {
                    parts[fallenBy(world, number) >> s & 1]++;
                }
            }
            if (Math.max(parts[0], parts[1]) < least) {
                least = Math.max(parts[0], parts[1]);
                best = s;
            }
        }
        return best;
    }

    int calm(int n, int q) {
        if (n < 0 || n > 60 || q < 0 || q > 100) {
            return OUTSIDE;
        }
        return n == 0 ? 1000000000 : (int) ((long) calm(n - 1, q) * q / 100);
    }

    // ---- the book

    int write(int s, boolean stands) {
        if (unknown(s)) {
            return UNKNOWN;
        }
        if (book.size() == 15) {
            return FULL;
        }
        book.add(new int[] {s, stands ? 1 : 0});
        return book.size();
    }

    int tear() {
        int n = book.size();
        book.clear();
        return n;
    }

    int judge() {
        for (int i = 0; i < book.size(); i++) {
            if (skittle(book.get(i)[0], 4) != book.get(i)[1]) {
                return i;
            }
        }
        return NONE;
    }

    // ---- draws, images

    int seed(int v) {
        if (v < 0) {
            return OUTSIDE;
        }
        int was = seed;
        seed = v;
        return was;
    }

    int keep(int i) {
        if (i < 0 || i > 1) {
            return UNKNOWN;
        }
        images[i] = world.same();
        seeds[i] = seed;
        past.clear();
        return 1;
    }

    int goBack(int i) {
        if (i < 0 || i > 1) {
            return UNKNOWN;
        }
        if (images[i] == null) {
            return NOT;
        }
        world = images[i].same();
        seed = seeds[i];
        past.clear();
        return 1;
    }
}
