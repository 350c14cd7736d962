import java.util.Arrays;

/**
 * Nine skittles in a diamond, and what balls do to them: the class that the document SkittleGentry describes.
 * Words of the document stand in capitals where a comment leans on them.
 */
public final class SkittleGentry {
    public static final int NONE = -1, UNKNOWN = -1000000001, OUTSIDE = -1000000002, NOT = -1000000003,
            FULL = -1000000004;

    private static final int PLATES = 9;
    private static final int ROWS = 5;
    private static final int COLUMNS = 5;
    private static final int LINES = 5;
    private static final int SLANTS = 3;
    private static final int PACES = 40;
    private static final int PATHS = LINES * SLANTS;
    private static final int BALLS_OF_LINE = SLANTS * PACES;
    private static final int BALLS = PATHS * PACES;
    private static final int SETS = 1 << PLATES;

    private static final int MOST_LETTERS = 240;
    private static final int MOST_FIGURES = 3;
    private static final int MOST_FLOOR = 9;
    private static final int MOST_KIND = 3;
    private static final int MOST_WEIGHT = 20;
    private static final int MOST_CHIP = 9;
    private static final int MOST_ROCKS = 9999;
    private static final int MOST_UNDONE = 16;
    private static final int MOST_ENTRIES = 15;
    private static final int MOST_DRIFT = 30;
    private static final int MOST_NIGHTS = 60;
    private static final int IMAGES = 2;
    private static final int HUNDRED = 100;
    private static final long BILLION = 1000000000L;

    private static final int OLD_FAMILY = 1;
    private static final int SAINT = 2;
    private static final int POOR_RELATION = 3;

    private static final int NO_FAULT = 0;
    private static final int CANNOT_STAND = 1;
    private static final int WRONG_NUMBER = 2;
    private static final int ONE_TOO_MANY = 3;

    private static final long SEED_FACTOR = 1103515245L;
    private static final long SEED_STEP = 12345L;
    private static final long SEED_MASK = 2147483647L;
    private static final int SEED_SHIFT = 65536;

    private static final int[] ROW_OF = {0, 1, 1, 2, 2, 2, 3, 3, 4};
    private static final int[] COLUMN_OF = {2, 1, 3, 0, 2, 4, 1, 3, 2};
    /** The PLATE in each ROW, COLUMN by COLUMN; -1 where there is none. */
    private static final int[] PLATE_AT = {
        -1, -1, 0, -1, -1,
        -1, 1, -1, 2, -1,
        3, -1, 4, -1, 5,
        -1, 6, -1, 7, -1,
        -1, -1, 8, -1, -1
    };

    private final CountyText text = new CountyText();
    private final Gentry now = new Gentry();
    private final Gentry changed = new Gentry();
    private final Past past = new Past();
    private final Gentry[] images = new Gentry[IMAGES];
    private final boolean[] kept = new boolean[IMAGES];
    private final int[] keptSeeds = new int[IMAGES];
    private final Roll roll = new Roll();
    private final Trials trials = new Trials();
    private final AllDown search = new AllDown();
    private final Book book = new Book();
    private int seed;
    private int latestFault = NONE;

    public SkittleGentry() {
        for (int i = 0; i < IMAGES; i++) {
            images[i] = new Gentry();
        }
    }

    // ---- the county

    public int feed(int letter) {
        if (letter < 0 || letter > 255) {
            return OUTSIDE;
        }
        return text.append(letter);
    }

    public int county() {
        int wrong = text.read();
        latestFault = text.faultAt;
        if (wrong != NO_FAULT) {
            return -10 - wrong;
        }
        now.found(text);
        for (int i = 0; i < IMAGES; i++) {
            kept[i] = false;
        }
        past.forget();
        book.clear();
        stirred();
        return now.count;
    }

    public int fault() {
        return latestFault;
    }

    public int told(int what) {
        switch (what) {
            case 0: return now.floor;
            case 1: return now.count;
            case 2: return text.length;
            case 3: return now.standing;
            case 4: return now.thrown;
            case 5: return now.floorers;
            case 6:
            case 7:
            case 8:
            case 9:
            case 10: return toldOfAllBalls(what);
            case 11: return now.pairsThatTalk();
            case 12: return book.size;
            case 13: return past.size;
            default: return OUTSIDE;
        }
    }

    public int skittle(int s, int what) {
        if (!now.has(s)) {
            return UNKNOWN;
        }
        switch (what) {
            case 0: return now.kinds[s];
            case 1: return now.weights[s];
            case 2: return now.chips[s];
            case 3: return now.plates[s];
            case 4: return now.stands(s) ? 1 : 0;
            case 5: return now.rocked[s];
            case 6: return now.taken[s];
            case 7: return now.firstTaker(s);
            case 8: return now.bears(s);
            default: return OUTSIDE;
        }
    }

    public int plate(int p) {
        return isPlate(p) ? now.on[p] : UNKNOWN;
    }

    // ---- what is done

    public int ball(int line, int slant, int pace) {
        if (!isBall(line, slant, pace)) {
            return OUTSIDE;
        }
        if (!now.isCounty()) {
            return NOT;
        }
        remember();
        return throwOne(line, slant, pace);
    }

    public int setUp() {
        if (!now.isCounty()) {
            return NOT;
        }
        remember();
        int lay = now.count - Integer.bitCount(now.standing);
        now.standAll();
        return lay;
    }

    public int lift(int s) {
        if (!now.has(s)) {
            return UNKNOWN;
        }
        if (now.stands(s)) {
            return NOT;
        }
        remember();
        now.standing |= 1 << s;
        return Integer.bitCount(now.standing);
    }

    public int change(int p, int q) {
        if (!isPlate(p) || !isPlate(q) || p == q) {
            return UNKNOWN;
        }
        remember();
        now.swap(p, q);
        return now.on[p];
    }

    public int chip(int s, int c) {
        if (!now.has(s)) {
            return UNKNOWN;
        }
        if (c < 0 || c > MOST_CHIP) {
            return OUTSIDE;
        }
        remember();
        int was = now.chips[s];
        now.chips[s] = c;
        return was;
    }

    public int replace(int s) {
        if (!now.has(s)) {
            return UNKNOWN;
        }
        int was = now.kinds[s];
        if (was == POOR_RELATION) {
            return NOT;
        }
        remember();
        now.kinds[s] = POOR_RELATION;
        return was;
    }

    public int drift(int n) {
        if (n < 1 || n > MOST_DRIFT) {
            return OUTSIDE;
        }
        if (!now.isCounty()) {
            return NOT;
        }
        remember();
        for (int i = 0; i < n; i++) {
            driftOnce();
        }
        return now.standing;
    }

    public int undo() {
        if (past.size == 0) {
            return NOT;
        }
        past.restore(now);
        stirred();
        return past.size;
    }

    // ---- tried

    public int wouldFall(int line, int slant, int pace, int what) {
        if (!isBall(line, slant, pace) || what < 0 || what > 2) {
            return OUTSIDE;
        }
        if (!now.isCounty()) {
            return NOT;
        }
        roll.prepare(now);
        int fallen = roll.send(line, slant, pace, now.standing);
        if (what == 0) {
            return fallen;
        }
        return what == 1 ? roll.rocks : roll.stays;
    }

    public int balls(int set, int what) {
        if (!now.hasAll(set)) {
            return UNKNOWN;
        }
        if (what < 0 || what > 1) {
            return OUTSIDE;
        }
        if (!now.isCounty()) {
            return NOT;
        }
        trials.fill(roll, now);
        return what == 0 ? trials.howMany(set) : numberOf(trials.firstOf(set));
    }

    public int spare(int fall, int stand) {
        if (!now.hasAll(fall) || !now.hasAll(stand)) {
            return UNKNOWN;
        }
        if (!now.isCounty()) {
            return NOT;
        }
        trials.fill(roll, now);
        return numberOf(trials.gentlest(fall, stand));
    }

    public int allDown(int what) {
        if (what < 0 || what > 1) {
            return OUTSIDE;
        }
        if (!now.isCounty()) {
            return NOT;
        }
        search.run(roll, now);
        return what == 0 ? search.fewest : numberOf(search.first);
    }

    public int mend(int line, int slant, int pace, int what) {
        if (!isBall(line, slant, pace) || what < 0 || what > 1) {
            return OUTSIDE;
        }
        if (!now.isCounty()) {
            return NOT;
        }
        changed.copy(now);
        int best = NONE;
        int fewest = PLATES + 1;
        for (int p = 0; p < PLATES; p++) {
            for (int q = p + 1; q < PLATES; q++) {
                int n = fallsIfSwapped(p, q, line, slant, pace);
                if (n < fewest) {
                    fewest = n;
                    best = 10 * p + q;
                }
            }
        }
        return what == 0 ? best : fewest;
    }

    public int hand(int set) {
        if (!now.hasAll(set)) {
            return UNKNOWN;
        }
        if (!now.isCounty()) {
            return NOT;
        }
        trials.fill(roll, now);
        return trials.linesOf(set);
    }

    public int ask(int line) {
        if (line < 0 || line >= LINES) {
            return OUTSIDE;
        }
        if (!now.isCounty()) {
            return NOT;
        }
        trials.fill(roll, now);
        return trials.bestToAsk(line, now.count);
    }

    public int calm(int n, int q) {
        if (n < 0 || n > MOST_NIGHTS || q < 0 || q > HUNDRED) {
            return OUTSIDE;
        }
        long odds = BILLION;
        for (int night = 0; night < n; night++) {
            odds = odds * q / HUNDRED;
        }
        return (int) odds;
    }

    // ---- the book

    public int write(int s, boolean stands) {
        return now.has(s) ? book.append(s, stands) : UNKNOWN;
    }

    public int tear() {
        int had = book.size;
        book.clear();
        return had;
    }

    public int judge() {
        return book.firstWrong(now.standing);
    }

    // ---- draws, images

    public int seed(int v) {
        if (v < 0) {
            return OUTSIDE;
        }
        int was = seed;
        seed = v;
        return was;
    }

    public int keep(int i) {
        if (i < 0 || i >= IMAGES) {
            return UNKNOWN;
        }
        images[i].copy(now);
        keptSeeds[i] = seed;
        kept[i] = true;
        past.forget();
        return 1;
    }

    public int goBack(int i) {
        if (i < 0 || i >= IMAGES) {
            return UNKNOWN;
        }
        if (!kept[i]) {
            return NOT;
        }
        now.copy(images[i]);
        seed = keptSeeds[i];
        past.forget();
        stirred();
        return 1;
    }

    // ---- helpers

    private static boolean isPlate(int p) {
        return p >= 0 && p < PLATES;
    }

    private static boolean isBall(int line, int slant, int pace) {
        return line >= 0 && line < LINES && slant >= 0 && slant < SLANTS && pace >= 1 && pace <= PACES;
    }

    /** The BALL as a number, of its place among all BALLS (they rise alike); NONE of NONE. */
    private static int numberOf(int place) {
        if (place < 0) {
            return NONE;
        }
        int path = place / PACES;
        return 1000 * (path / SLANTS) + 100 * (path % SLANTS) + place % PACES + 1;
    }

    /** What is done from here on can be undone. */
    private void remember() {
        past.push(now);
        stirred();
    }

    /** What was tried no longer holds. */
    private void stirred() {
        trials.filled = false;
        search.ended = false;
    }

    private int throwOne(int line, int slant, int pace) {
        roll.prepare(now);
        roll.clearRocked();
        int fallen = roll.send(line, slant, pace, now.standing);
        now.suffer(roll, fallen);
        return fallen;
    }

    private void driftOnce() {
        int what = draw(4);
        if (what <= 1) {
            int line = draw(LINES);
            int slant = draw(SLANTS);
            int pace = draw(PACES) + 1;
            throwOne(line, slant, pace);
        } else if (what == 2) {
            now.standAll();
        } else {
            int p = draw(PLATES);
            int q = draw(PLATES);
            now.swap(p, q);
        }
    }

    private int draw(int n) {
        seed = (int) ((seed * SEED_FACTOR + SEED_STEP) & SEED_MASK);
        return n < 1 ? 0 : seed / SEED_SHIFT % n;
    }

    private int fallsIfSwapped(int p, int q, int line, int slant, int pace) {
        changed.swap(p, q);
        roll.prepare(changed);
        int fallen = roll.send(line, slant, pace, changed.standing);
        changed.swap(p, q);
        return Integer.bitCount(fallen);
    }

    private int toldOfAllBalls(int what) {
        if (!now.isCounty()) {
            return NONE;
        }
        trials.fill(roll, now);
        switch (what) {
            case 6: return numberOf(trials.worst());
            case 7: return trials.fallenBy(trials.worst());
            case 8: return trials.safest(now);
            case 9: return trials.fallsOf(trials.safest(now));
            default: return trials.howMany(0);
        }
    }

    /** THE TEXT, and what the latest reading found in it. */
    private static final class CountyText {
        private final int[] letters = new int[MOST_LETTERS];
        private final int[] kinds = new int[PLATES];
        private final int[] weights = new int[PLATES];
        private final int[] chips = new int[PLATES];
        private int length;
        private int at;
        private int floor;
        private int count;
        private int faultNumber;
        private int faultAt;

        int append(int letter) {
            if (length >= MOST_LETTERS) {
                return FULL;
            }
            letters[length] = letter;
            length++;
            return length;
        }

        /** Reads THE TEXT, which is empty then: the number of its FAULT, or NO_FAULT. */
        int read() {
            at = 0;
            floor = NONE;
            count = 0;
            faultNumber = NO_FAULT;
            faultAt = NONE;
            if (isMore()) {
                readFloor();
            }
            // Each clause has a letter at least, so there cannot be more clauses than letters.
            for (int clause = 0; clause < MOST_LETTERS && faultNumber == NO_FAULT && isMore(); clause++) {
                readSkittle();
            }
            length = 0;
            return faultNumber;
        }

        private void readFloor() {
            takeSign('g');
            floor = takeNumber(0, MOST_FLOOR);
            takeSign(';');
        }

        private void readSkittle() {
            if (sees('g') || sees('s') && count >= PLATES) {
                fail(ONE_TOO_MANY, at);
                return;
            }
            takeSign('s');
            int kind = takeNumber(0, MOST_KIND);
            int weight = takeNumber(1, MOST_WEIGHT);
            int chip = takeNumber(0, MOST_CHIP);
            takeSign(';');
            if (faultNumber == NO_FAULT && count < PLATES) {
                kinds[count] = kind;
                weights[count] = weight;
                chips[count] = chip;
                count++;
            }
        }

        /** Passes over blanks: is there a letter behind them? */
        private boolean isMore() {
            while (at < length && sees(' ')) {
                at++;
            }
            return at < length;
        }

        private boolean sees(int letter) {
            return at < length && at < MOST_LETTERS && letters[at] == letter;
        }

        private boolean seesFigure() {
            return at < length && at < MOST_LETTERS && letters[at] >= '0' && letters[at] <= '9';
        }

        private void takeSign(int sign) {
            if (faultNumber != NO_FAULT) {
                return;
            }
            if (isMore() && sees(sign)) {
                at++;
            } else {
                fail(CANNOT_STAND, at);
            }
        }

        private int takeNumber(int least, int most) {
            if (faultNumber != NO_FAULT) {
                return least;
            }
            if (!isMore() || !seesFigure()) {
                fail(CANNOT_STAND, at);
                return least;
            }
            int start = at;
            int value = 0;
            while (at < length && seesFigure()) {
                // Figures past the third are a FAULT whatever they tell, and must not overflow the value.
                if (at - start < MOST_FIGURES) {
                    value = 10 * value + letters[at] - '0';
                }
                at++;
            }
            if (at - start > MOST_FIGURES || value < least || value > most) {
                fail(WRONG_NUMBER, start);
            }
            return value;
        }

        private void fail(int number, int where) {
            faultNumber = number;
            faultAt = where;
        }
    }

    /** All of section 2: the SKITTLES of THE COUNTY as they are at one time. */
    private static final class Gentry {
        private final int[] kinds = new int[PLATES];
        private final int[] weights = new int[PLATES];
        private final int[] chips = new int[PLATES];
        private final int[] plates = new int[PLATES];
        private final int[] rocked = new int[PLATES];
        private final int[] taken = new int[PLATES];
        /** Who is on each PLATE; NONE. */
        private final int[] on = new int[PLATES];
        private int floor = NONE;
        private int count;
        private int standing;
        private int thrown;
        private int floorers;

        Gentry() {
            for (int p = 0; p < PLATES; p++) {
                on[p] = NONE;
            }
        }

        void copy(Gentry other) {
            System.arraycopy(other.kinds, 0, kinds, 0, PLATES);
            System.arraycopy(other.weights, 0, weights, 0, PLATES);
            System.arraycopy(other.chips, 0, chips, 0, PLATES);
            System.arraycopy(other.plates, 0, plates, 0, PLATES);
            System.arraycopy(other.rocked, 0, rocked, 0, PLATES);
            System.arraycopy(other.taken, 0, taken, 0, PLATES);
            System.arraycopy(other.on, 0, on, 0, PLATES);
            floor = other.floor;
            count = other.count;
            standing = other.standing;
            thrown = other.thrown;
            floorers = other.floorers;
        }

        /** Begins anew with what was read. */
        void found(CountyText text) {
            floor = text.floor;
            count = text.count;
            for (int s = 0; s < PLATES; s++) {
                kinds[s] = text.kinds[s];
                weights[s] = text.weights[s];
                chips[s] = text.chips[s];
                plates[s] = s;
                rocked[s] = 0;
                taken[s] = NONE;
                on[s] = s < count ? s : NONE;
            }
            standAll();
            thrown = 0;
            floorers = 0;
        }

        boolean isCounty() {
            return floor != NONE;
        }

        boolean has(int s) {
            return s >= 0 && s < count && s < PLATES;
        }

        boolean hasAll(int set) {
            return set >= 0 && set < 1 << count;
        }

        boolean stands(int s) {
            return has(s) && (standing >> s & 1) == 1;
        }

        boolean lies(int s) {
            return has(s) && (standing >> s & 1) == 0;
        }

        void standAll() {
            standing = (1 << count) - 1;
        }

        int bears(int s) {
            if (!has(s)) {
                return 1;
            }
            int most = weights[s] - chips[s];
            if (kinds[s] == OLD_FAMILY) {
                most = weights[s] - chips[s] / 2;
            } else if (kinds[s] == SAINT && plates[s] == 0) {
                // PLATE 0 is all of ROW 0.
                most += 2;
            } else if (kinds[s] == POOR_RELATION) {
                most = weights[s] / 2;
            }
            return Math.max(1, most);
        }

        void swap(int p, int q) {
            if (!isPlate(p) || !isPlate(q)) {
                return;
            }
            int s = on[p];
            int t = on[q];
            put(s, q);
            put(t, p);
        }

        private void put(int s, int p) {
            on[p] = s;
            if (has(s)) {
                plates[s] = p;
            }
        }

        /** A BALL has been THROWN: what it did becomes so. */
        void suffer(Roll roll, int fallen) {
            for (int s = 0; s < PLATES; s++) {
                rocked[s] = Math.min(MOST_ROCKS, rocked[s] + roll.rocked[s]);
                if ((fallen >> s & 1) == 1) {
                    taken[s] = roll.taken[s];
                }
            }
            standing &= ~fallen;
            thrown++;
            if (Integer.bitCount(fallen) == PLATES) {
                floorers++;
            }
        }

        /** FIRST of a SKITTLE. */
        int firstTaker(int s) {
            int at = s;
            for (int step = 0; step < PLATES; step++) {
                int by = has(at) ? taken[at] : NONE;
                if (by == NONE) {
                    return at;
                }
                at = by;
            }
            return at;
        }

        int pairsThatTalk() {
            int pairs = 0;
            for (int p = 0; p < PLATES; p++) {
                for (int q = p + 1; q < PLATES; q++) {
                    if (lies(on[p]) && lies(on[q]) && areSideBySide(p, q)) {
                        pairs++;
                    }
                }
            }
            return pairs;
        }

        private static boolean areSideBySide(int p, int q) {
            return Math.abs(ROW_OF[p] - ROW_OF[q]) == 1 && Math.abs(COLUMN_OF[p] - COLUMN_OF[q]) == 1;
        }
    }

    /** One BALL on its way among SKITTLES that it does not change: what it does is told here. */
    private static final class Roll {
        private final int[] on = new int[PLATES];
        private final int[] bears = new int[PLATES];
        private final int[] taken = new int[PLATES];
        private final int[] rocked = new int[PLATES];
        private int drag;
        private int standing;
        private int rocks;
        private int stays;

        void prepare(Gentry gentry) {
            drag = gentry.floor / 3;
            for (int i = 0; i < PLATES; i++) {
                on[i] = gentry.on[i];
                bears[i] = gentry.bears(i);
            }
        }

        /** Apart from send(), for most BALLS are only tried, and there nobody looks at who ROCKED. */
        void clearRocked() {
            Arrays.fill(rocked, 0);
        }

        /** Who FALLS by the BALL of those that stand at first. */
        int send(int line, int slant, int pace, int atFirst) {
            standing = atFirst;
            rocks = 0;
            stays = NONE;
            int left = pace;
            for (int row = 0; row < ROWS && stays == NONE; row++) {
                left = meet(row, line + row * (slant - 1), left) - drag;
                if (left <= 0) {
                    stays = row;
                }
            }
            return atFirst & ~standing;
        }

        /**
         * The least PACE by which anyone FALLS on that path, or one more than there is: a BALL that does not
         * throw down the first one in its way stays there, and before that it loses the drag alone.
         */
        int leastPace(int line, int slant, int atFirst) {
            standing = atFirst;
            for (int row = 0; row < ROWS; row++) {
                int s = whoStandsAt(row, line + row * (slant - 1));
                if (s != NONE) {
                    return bears[s] + row * drag;
                }
            }
            return PACES + 1;
        }

        /** What PACE is left when the BALL has been at a place; 0 if it stays there. */
        private int meet(int row, int column, int pace) {
            int s = whoStandsAt(row, column);
            if (s == NONE) {
                return pace;
            }
            if (pace < bears[s]) {
                rock(s);
                return 0;
            }
            topple(s, NONE, row, column, pace);
            return pace - bears[s] / 2 - 1;
        }

        /** The ROW rises with each that takes another, so this goes ROWS deep at most. */
        private void topple(int s, int by, int row, int column, int n) {
            standing &= ~(1 << s);
            taken[s] = by;
            if (n / 2 >= 1 && row + 1 < ROWS) {
                strike(s, row + 1, column - 1, n / 2);
                strike(s, row + 1, column + 1, n / 2);
            }
        }

        private void strike(int by, int row, int column, int n) {
            int s = whoStandsAt(row, column);
            if (s == NONE) {
                return;
            }
            if (n < bears[s]) {
                rock(s);
            } else {
                topple(s, by, row, column, n);
            }
        }

        private void rock(int s) {
            rocks++;
            rocked[s]++;
        }

        private int whoStandsAt(int row, int column) {
            if (row < 0 || row >= ROWS || column < 0 || column >= COLUMNS) {
                return NONE;
            }
            int p = PLATE_AT[row * COLUMNS + column];
            if (p < 0 || p >= PLATES) {
                return NONE;
            }
            int s = on[p];
            return s >= 0 && s < PLATES && (standing >> s & 1) == 1 ? s : NONE;
        }
    }

    /** Who FALLS by each of all BALLS, in the rising order of their numbers. */
    private static final class Trials {
        private final int[] falls = new int[BALLS];
        private boolean filled;

        void fill(Roll roll, Gentry gentry) {
            if (filled) {
                return;
            }
            roll.prepare(gentry);
            for (int path = 0; path < PATHS; path++) {
                int line = path / SLANTS;
                int slant = path % SLANTS;
                int least = roll.leastPace(line, slant, gentry.standing);
                for (int pace = 1; pace <= PACES; pace++) {
                    falls[path * PACES + pace - 1] =
                            pace < least ? 0 : roll.send(line, slant, pace, gentry.standing);
                }
            }
            filled = true;
        }

        int howMany(int set) {
            int n = 0;
            for (int b = 0; b < BALLS; b++) {
                if (falls[b] == set) {
                    n++;
                }
            }
            return n;
        }

        int firstOf(int set) {
            for (int b = 0; b < BALLS; b++) {
                if (falls[b] == set) {
                    return b;
                }
            }
            return NONE;
        }

        int linesOf(int set) {
            int lines = 0;
            for (int b = 0; b < BALLS; b++) {
                if (falls[b] == set) {
                    lines |= 1 << b / BALLS_OF_LINE;
                }
            }
            return lines;
        }

        /** SPARE: PACE counts ahead of LINE and SLANT here. */
        int gentlest(int fall, int stand) {
            for (int pace = 1; pace <= PACES; pace++) {
                for (int path = 0; path < PATHS; path++) {
                    int b = path * PACES + pace - 1;
                    if ((falls[b] & fall) == fall && (falls[b] & stand) == 0) {
                        return b;
                    }
                }
            }
            return NONE;
        }

        int worst() {
            int best = 0;
            for (int b = 1; b < BALLS; b++) {
                if (Integer.bitCount(falls[b]) > Integer.bitCount(falls[best])) {
                    best = b;
                }
            }
            return best;
        }

        int fallenBy(int b) {
            return b < 0 || b >= BALLS ? NONE : Integer.bitCount(falls[b]);
        }

        int safest(Gentry gentry) {
            int best = NONE;
            int fewest = BALLS + 1;
            for (int s = 0; s < PLATES; s++) {
                if (gentry.stands(s)) {
                    int n = fallsOf(s);
                    if (n < fewest) {
                        fewest = n;
                        best = s;
                    }
                }
            }
            return best;
        }

        /** By how many BALLS it FALLS; NONE of NONE. */
        int fallsOf(int s) {
            return s == NONE ? NONE : fallsAmong(s, 0, BALLS);
        }

        private int fallsAmong(int s, int from, int to) {
            int n = 0;
            for (int b = Math.max(from, 0); b < to && b < BALLS; b++) {
                n += falls[b] >> s & 1;
            }
            return n;
        }

        int bestToAsk(int line, int count) {
            int best = NONE;
            int least = BALLS_OF_LINE;
            for (int s = 0; s < count; s++) {
                int n = fallsAmong(s, line * BALLS_OF_LINE, (line + 1) * BALLS_OF_LINE);
                int greater = Math.max(n, BALLS_OF_LINE - n);
                if (greater < least) {
                    least = greater;
                    best = s;
                }
            }
            return best;
        }
    }

    /**
     * ALL DOWN, by breadth: SETS that stand after one BALL, after two, and so on. BALLS are tried in rising
     * order, and SETS are gone on from in the order they came up, so the row that comes to a SET first has
     * the least first BALL of all rows that are as short.
     */
    private static final class AllDown {
        private final int[] queue = new int[SETS];
        private final int[] steps = new int[SETS];
        private final int[] firsts = new int[SETS];
        private int queued;
        private boolean ended;
        private int fewest;
        private int first;

        void run(Roll roll, Gentry gentry) {
            if (ended) {
                return;
            }
            roll.prepare(gentry);
            Arrays.fill(steps, NONE);
            queued = 0;
            reach(gentry.standing, 0, NONE);
            for (int i = 0; i < queued && i < SETS && steps[0] == NONE; i++) {
                goOn(roll, queue[i]);
            }
            fewest = steps[0];
            first = fewest == NONE ? NONE : firsts[0];
            ended = true;
        }

        private void goOn(Roll roll, int standing) {
            if (standing < 0 || standing >= SETS) {
                return;
            }
            for (int path = 0; path < PATHS && steps[0] == NONE; path++) {
                int line = path / SLANTS;
                int slant = path % SLANTS;
                for (int pace = roll.leastPace(line, slant, standing); pace <= PACES; pace++) {
                    int fallen = roll.send(line, slant, pace, standing);
                    int ball = steps[standing] == 0 ? path * PACES + pace - 1 : firsts[standing];
                    reach(standing & ~fallen, steps[standing] + 1, ball);
                }
            }
        }

        private void reach(int standing, int step, int ball) {
            if (standing < 0 || standing >= SETS || queued >= SETS || steps[standing] != NONE) {
                return;
            }
            steps[standing] = step;
            firsts[standing] = ball;
            queue[queued] = standing;
            queued++;
        }
    }

    /** What could be undone: a ring, in which the oldest gives way. */
    private static final class Past {
        private final Gentry[] ring = new Gentry[MOST_UNDONE];
        private int next;
        private int size;

        Past() {
            for (int i = 0; i < MOST_UNDONE; i++) {
                ring[i] = new Gentry();
            }
        }

        void push(Gentry gentry) {
            ring[next].copy(gentry);
            next = (next + 1) % MOST_UNDONE;
            size = Math.min(MOST_UNDONE, size + 1);
        }

        void restore(Gentry gentry) {
            if (size == 0) {
                return;
            }
            next = (next + MOST_UNDONE - 1) % MOST_UNDONE;
            size--;
            gentry.copy(ring[next]);
        }

        void forget() {
            size = 0;
        }
    }

    /** THE BOOK: who is said to stand, or not. */
    private static final class Book {
        private final int[] skittles = new int[MOST_ENTRIES];
        private final boolean[] stood = new boolean[MOST_ENTRIES];
        private int size;

        int append(int s, boolean stands) {
            if (size >= MOST_ENTRIES) {
                return FULL;
            }
            skittles[size] = s;
            stood[size] = stands;
            size++;
            return size;
        }

        void clear() {
            size = 0;
        }

        int firstWrong(int standing) {
            for (int i = 0; i < size && i < MOST_ENTRIES; i++) {
                boolean stands = (standing >> skittles[i] & 1) == 1;
                if (stands != stood[i]) {
                    return i;
                }
            }
            return NONE;
        }
    }
}
