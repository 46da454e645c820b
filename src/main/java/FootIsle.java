import java.util.Arrays;

/** An isle of sand on which footprints are land. */
public final class FootIsle {
    public static final int BAD = -1, NOT = -2, FULL = -3, NONE = -4, NULL = -11, CAST = -12, INDEX = -13, SIZE = -14;

    private static final int SIDE = 8, CELLS = SIDE * SIDE, MOST_WALKERS = 6, ALL_PRINTS = MOST_WALKERS * CELLS;
    private static final int DEEPEST = 99, LAST_HOUR = 9999, HOURS_A_CALL = 24;
    private static final int HOURS_AHEAD = 48, HOURS_BEHIND_STEPS = 12, STEPS_AHEAD = 4, MILLION = 1000000;

    private static final int WET = 0, WIND = 1, REACH = 2, TIDE = 3, FLOOD = 4;
    private static final int[] LEAST_SETTING = {0, 0, 0, 2, 0};
    private static final int[] MOST_SETTING = {8, 9, 3, 12, 8};

    private static final int PLAIN = 0, SHOD = 1, HEAVY = 2, HORSE = 3, HOPPER = 4;
    private static final String KIND_LETTERS = "pshko";

    private static final int UNDO_MOST = 8, TAPE_MOST = 60, FAULT = -20;
    private static final int SHEETS = 4, BYTES = 0, SHORTS = 1, INTS = 2, LONGS = 3, ITEMS_MOST = 24, PRINTS_TOLD_MOST = 8;

    // Cells as bits of a long, cell 0 the lowest.
    private static final long FIRST_COLUMN = 0x0101010101010101L, LAST_COLUMN = 0x8080808080808080L;
    private static final long RIM = 0xFF818181818181FFL;

    private final Isle now = new Isle();
    private final Isle kept = new Isle();
    private boolean isKept = false;
    private final Tape tape = new Tape();
    private final Sheet[] sheets = new Sheet[SHEETS];
    private final Survey survey = new Survey();
    private final Trial trial = new Trial();

    public FootIsle() {
        for (int i = 0; i < SHEETS; i++) {
            sheets[i] = new Sheet();
        }
    }

    // ---- 1 walkers, prints

    public int walker(int kind, int weight, int cell) {
        if (kind < PLAIN || kind > HOPPER || weight < 1 || weight > 9 || !isCell(cell)) {
            return BAD;
        }
        if (now.walkers >= MOST_WALKERS) {
            return FULL;
        }
        now.past.forget();
        return now.enter(kind, weight, cell);
    }

    public int of(int walker, int what) {
        if (!now.has(walker)) {
            return BAD;
        }
        switch (what) {
            case 0:
                return now.kinds[walker];
            case 1:
                return now.weights[walker];
            case 2:
                return now.cells[walker];
            case 3:
                return now.steps[walker];
            case 4:
                return now.treadOf(walker);
            case 5:
                return now.shoesOf(walker);
            case 6:
                survey.look(now, 0);
                return survey.lands[walker];
            default:
                return BAD;
        }
    }

    public int isle(int what, int v) {
        if (what < WET || what > FLOOD || v < LEAST_SETTING[what] || v > MOST_SETTING[what]) {
            return BAD;
        }
        int was = now.settings[what];
        now.settings[what] = v;
        return was;
    }

    public int print(int walker, int cell) {
        if (!now.has(walker) || !isCell(cell)) {
            return BAD;
        }
        return now.prints[walker * CELLS + cell];
    }

    public int claim(int walker, int cell) {
        if (!now.has(walker) || !isCell(cell)) {
            return BAD;
        }
        survey.look(now, 0);
        return survey.claims[walker * CELLS + cell];
    }

    public int held(int cell) {
        return ahead(cell, 0);
    }

    public int type(int letter) {
        if (letter < 32 || letter > 126) {
            return BAD;
        }
        return tape.put(letter) ? tape.length : FULL;
    }

    public int settle() {
        int answer = tape.parse();
        tape.length = 0;
        if (answer > 0) {
            now.settleAs(tape);
        }
        return answer;
    }

    public int count(int what) {
        if (what >= 2 && what <= 6) {
            return now.settings[what - 2];
        }
        switch (what) {
            case 0:
                return now.walkers;
            case 1:
                return now.hour;
            case 7:
                return now.past.known;
            case 8:
                survey.look(now, 0);
                return survey.heldCells;
            case 9:
                return now.troddenCells();
            default:
                return BAD;
        }
    }

    // ---- what is done

    public int step(int walker, int way) {
        if (!now.has(walker) || way < 0 || way > 3) {
            return BAD;
        }
        int to = beside(now.cells[walker], way);
        if (to < 0) {
            return NOT;
        }
        now.past.keep(now);
        now.stepTo(walker, to);
        return to;
    }

    public int hours(int n) {
        int fault = hoursFault(n);
        if (fault < 0) {
            return fault;
        }
        for (int i = 0; i < n; i++) {
            now.past.keep(now);
            now.passHour();
        }
        survey.look(now, 0);
        return survey.heldCells;
    }

    public int drift(int n) {
        int fault = hoursFault(n);
        if (fault < 0) {
            return fault;
        }
        int gone = 0;
        for (int i = 0; i < n; i++) {
            now.past.keep(now);
            now.passHour();
            gone += now.sweep(now.drawCell());
        }
        return gone;
    }

    private int hoursFault(int n) {
        if (n < 1 || n > HOURS_A_CALL) {
            return BAD;
        }
        return now.hour > LAST_HOUR - n ? FULL : 0;
    }

    public int rake(int cell) {
        if (!isCell(cell)) {
            return BAD;
        }
        now.past.keep(now);
        return now.sweep(cell);
    }

    public int undo() {
        if (now.past.known < 1) {
            return NONE;
        }
        now.past.giveBack(now);
        return now.past.known;
    }

    public int seed(int v) {
        if (v < 0) {
            return BAD;
        }
        int was = now.draw;
        now.draw = v;
        return was;
    }

    // ---- 2 foretold

    public int ahead(int cell, int n) {
        if (!isCell(cell) || n < 0 || n > HOURS_AHEAD) {
            return BAD;
        }
        survey.look(now, n);
        return survey.holderOf(cell);
    }

    public int land(int walker, int n) {
        if (!now.has(walker) || n < 0 || n > HOURS_AHEAD) {
            return BAD;
        }
        survey.look(now, n);
        return survey.lands[walker];
    }

    public int lasts(int walker, int cell) {
        if (!now.has(walker) || !isCell(cell)) {
            return BAD;
        }
        for (int n = 0; n <= HOURS_AHEAD; n++) {
            survey.look(now, n);
            if (survey.holderOf(cell) != walker) {
                return n == 0 ? NOT : n;
            }
        }
        return NONE;
    }

    public int county(int walker) {
        if (!now.has(walker)) {
            return BAD;
        }
        long open = 0;
        for (int cell = 0; cell < CELLS; cell++) {
            if (now.prints[walker * CELLS + cell] == 0) {
                open |= 1L << cell;
            }
        }
        return Long.bitCount(open & ~spreadOver(open & RIM, open));
    }

    public int way(int walker, int from, int to) {
        if (!now.has(walker) || !isCell(from) || !isCell(to)) {
            return BAD;
        }
        survey.look(now, 0);
        long free = 0;
        for (int cell = 0; cell < CELLS; cell++) {
            int holder = survey.holderOf(cell);
            if (holder < 0 || holder == walker) {
                free |= 1L << cell;
            }
        }
        return fewestTrodden(1L << from, 1L << to, free);
    }

    public int walk(int walker, int n, int h, int k) {
        if (!now.has(walker) || n < 0 || n > STEPS_AHEAD || h < 0 || h > HOURS_BEHIND_STEPS || k < -1) {
            return BAD;
        }
        if (k >= n) {
            return NONE;
        }
        trial.begin(now, survey, walker, h);
        int most = -1;
        int best = 0;
        for (int ways = 0; ways < 1 << 2 * n; ways++) {
            if (trial.go(now, survey, ways, n)) {
                survey.tally();
                if (survey.lands[walker] > most) {
                    most = survey.lands[walker];
                    best = ways;
                }
            }
        }
        return k < 0 ? most : wayAt(best, n, k);
    }

    public int well(int walker, int cell, int h) {
        if (!now.has(walker) || !isCell(cell) || h < 0 || h > HOURS_BEHIND_STEPS) {
            return BAD;
        }
        trial.begin(now, survey, walker, h);
        for (int n = 0; n <= STEPS_AHEAD; n++) {
            for (int ways = 0; ways < 1 << 2 * n; ways++) {
                if (trial.go(now, survey, ways, n) && survey.holderOf(cell) == walker) {
                    return n;
                }
            }
        }
        return NONE;
    }

    public int crabs(int walker, int cell, int n, int c) {
        if (!now.has(walker) || !isCell(cell) || n < 0 || n > HOURS_AHEAD || c < 0 || c > 100) {
            return BAD;
        }
        if (now.depthBehind(now.prints[walker * CELLS + cell], cell, n) == 0) {
            return 0;
        }
        int left = MILLION;
        for (int i = 0; i < n; i++) {
            left = left * (100 - c) / 100;
        }
        return left;
    }

    public int image() {
        kept.become(now);
        isKept = true;
        return 1;
    }

    public int restore() {
        if (!isKept) {
            return NONE;
        }
        now.become(kept);
        return 1;
    }

    // ---- 3 sheets

    public int raked(int sheet, int lane, int i, int what) {
        if (what < 0 || what > 1) {
            return BAD;
        }
        int fault = itemsFault(sheet, lane, i, now.walkers);
        if (fault < 0) {
            return fault;
        }
        for (int w = 0; w < now.walkers; w++) {
            if (!sheets[sheet].isWithin(i + w, CELLS)) {
                return NOT;
            }
        }
        // A cell without prints leaves all land as it is: one look serves for all of these.
        survey.look(now, 0);
        boolean asItIs = isLandOfAll(sheets[sheet], i);
        int found = 0;
        int least = NONE;
        for (int cell = CELLS - 1; cell >= 0; cell--) {
            boolean fits = asItIs;
            if (now.isTrodden(cell)) {
                survey.lookWithout(now, 0, cell);
                fits = isLandOfAll(sheets[sheet], i);
            }
            if (fits) {
                found++;
                least = cell;
            }
        }
        return what == 0 ? found : least;
    }

    private boolean isLandOfAll(Sheet told, int i) {
        for (int w = 0; w < now.walkers; w++) {
            if (told.items[i + w] != survey.lands[w]) {
                return false;
            }
        }
        return true;
    }

    public int shoes(int sheet, int lane, int i, int n) {
        if (n < 1 || n > PRINTS_TOLD_MOST) {
            return BAD;
        }
        int fault = itemsFault(sheet, lane, i, 2 * n);
        if (fault < 0) {
            return fault;
        }
        for (int k = 0; k < n; k++) {
            if (!sheets[sheet].isWithin(i + 2 * k, CELLS - 1) || !sheets[sheet].isWithin(i + 2 * k + 1, DEEPEST)) {
                return NOT;
            }
        }
        int set = 0;
        for (int w = 0; w < now.walkers; w++) {
            if (hasPrints(w, sheets[sheet], i, n)) {
                set |= 1 << w;
            }
        }
        return set;
    }

    private boolean hasPrints(int walker, Sheet told, int i, int n) {
        for (int k = 0; k < n; k++) {
            int cell = (int) told.items[i + 2 * k];
            if (now.prints[walker * CELLS + cell] != told.items[i + 2 * k + 1]) {
                return false;
            }
        }
        return true;
    }

    public int film(int walker, int n, int sheet, int lane, int i) {
        if (!now.has(walker) || n < 1 || n > HOURS_A_CALL) {
            return BAD;
        }
        int fault = itemsFault(sheet, lane, i, n);
        if (fault < 0) {
            return fault;
        }
        for (int k = 0; k < n; k++) {
            survey.look(now, k + 1);
            sheets[sheet].items[i + k] = survey.lands[walker];
        }
        return n;
    }

    public int sheet(int sheet, int lane, int n) {
        if (!isSheet(sheet) || lane < BYTES || lane > LONGS || n > ITEMS_MOST) {
            return BAD;
        }
        if (n < 0) {
            return SIZE;
        }
        sheets[sheet].begin(lane, n);
        return n;
    }

    public int drop(int sheet) {
        if (!isSheet(sheet)) {
            return BAD;
        }
        if (sheets[sheet].isNothing()) {
            return NULL;
        }
        return sheets[sheet].end();
    }

    public int item(int sheet, int lane, int i, long v) {
        int fault = itemsFault(sheet, lane, i, 1);
        if (fault < 0) {
            return fault;
        }
        sheets[sheet].items[i] = lowestBits(lane, v);
        return 1;
    }

    public int copy(int from, int i, int to, int j, int n) {
        if (!isSheet(from) || !isSheet(to)) {
            return BAD;
        }
        Sheet source = sheets[from];
        Sheet goal = sheets[to];
        if (source.isNothing() || goal.isNothing()) {
            return NULL;
        }
        if (source.lane != goal.lane) {
            return CAST;
        }
        if (!source.spans(i, n) || !goal.spans(j, n)) {
            return INDEX;
        }
        System.arraycopy(source.items, i, goal.items, j, n);
        return n;
    }

    /** What is wrong with n items of a sheet, taken as a row of a lane, from item i on; 0: nothing. */
    private int itemsFault(int sheet, int lane, int i, int n) {
        if (!isSheet(sheet) || lane < BYTES || lane > LONGS) {
            return BAD;
        }
        if (sheets[sheet].isNothing()) {
            return NULL;
        }
        if (sheets[sheet].lane != lane) {
            return CAST;
        }
        return sheets[sheet].spans(i, n) ? 0 : INDEX;
    }

    private static boolean isSheet(int sheet) {
        return sheet >= 0 && sheet < SHEETS;
    }

    private static long lowestBits(int lane, long v) {
        switch (lane) {
            case BYTES:
                return (byte) v;
            case SHORTS:
                return (short) v;
            case INTS:
                return (int) v;
            default:
                return v;
        }
    }

    // ---- cells and ways

    private static boolean isCell(int cell) {
        return cell >= 0 && cell < CELLS;
    }

    private static int columnOf(int cell) {
        return cell & SIDE - 1;
    }

    private static int rowOf(int cell) {
        return cell >> 3;
    }

    /** The cell next to one; NOT: beyond the isle. */
    private static int beside(int cell, int way) {
        switch (way) {
            case 0:
                return columnOf(cell) < SIDE - 1 ? cell + 1 : NOT;
            case 1:
                return rowOf(cell) < SIDE - 1 ? cell + SIDE : NOT;
            case 2:
                return columnOf(cell) > 0 ? cell - 1 : NOT;
            default:
                return rowOf(cell) > 0 ? cell - SIDE : NOT;
        }
    }

    /** The k-th of n ways held in one number, two bits each, the first one highest: so their order is the numbers' order. */
    private static int wayAt(int ways, int n, int k) {
        return ways >> 2 * (n - 1 - k) & 3;
    }

    /** The cells that share a side with one of a set. */
    private static long besideSet(long set) {
        return set << 1 & ~FIRST_COLUMN | set >>> 1 & ~LAST_COLUMN | set << SIDE | set >>> SIDE;
    }

    /** A set with all cells to which ways go from it over open ones. */
    private static long spreadOver(long from, long open) {
        long reached = from;
        for (int i = 0; i < CELLS; i++) {
            long more = reached | besideSet(reached) & open;
            if (more == reached) {
                break;
            }
            reached = more;
        }
        return reached;
    }

    /** The fewest cells not free that must be trodden on from one cell to another (each a set of one). */
    private static int fewestTrodden(long from, long to, long free) {
        long reached = from;
        for (int trodden = 0; trodden < CELLS; trodden++) {
            reached = spreadOver(reached, free);
            if ((reached & to) != 0) {
                return trodden;
            }
            reached |= besideSet(reached);
        }
        return CELLS;
    }

    // ---- how a foot comes down

    private static boolean comesDown(int kind, int steps) {
        return kind != HOPPER || (steps & 1) == 0;
    }

    private static void deepen(int[] prints, int at, int depth) {
        prints[at] = Math.min(DEEPEST, prints[at] + depth);
    }

    /** The sand, who walks on it, and what may be undone: all that an image keeps. */
    private static final class Isle {
        final int[] settings = {3, 2, 1, 6, 2};
        final int[] kinds = new int[MOST_WALKERS];
        final int[] weights = new int[MOST_WALKERS];
        final int[] cells = new int[MOST_WALKERS];
        final int[] steps = new int[MOST_WALKERS];
        final int[] prints = new int[ALL_PRINTS];
        final Past past = new Past();
        int walkers = 0;
        int hour = 0;
        int draw = 1;

        void become(Isle other) {
            System.arraycopy(other.settings, 0, settings, 0, settings.length);
            System.arraycopy(other.kinds, 0, kinds, 0, MOST_WALKERS);
            System.arraycopy(other.weights, 0, weights, 0, MOST_WALKERS);
            System.arraycopy(other.cells, 0, cells, 0, MOST_WALKERS);
            System.arraycopy(other.steps, 0, steps, 0, MOST_WALKERS);
            System.arraycopy(other.prints, 0, prints, 0, ALL_PRINTS);
            past.become(other.past);
            walkers = other.walkers;
            hour = other.hour;
            draw = other.draw;
        }

        boolean has(int walker) {
            return walker >= 0 && walker < walkers;
        }

        int enter(int kind, int weight, int cell) {
            int number = walkers;
            kinds[number] = kind;
            weights[number] = weight;
            cells[number] = cell;
            steps[number] = 0;
            walkers++;
            return number;
        }

        void settleAs(Tape text) {
            past.forget();
            Arrays.fill(prints, 0);
            settings[WIND] = text.wind;
            settings[REACH] = text.reach;
            hour = 0;
            walkers = 0;
            for (int w = 0; w < text.walkers; w++) {
                enter(text.kinds[w], text.weights[w], text.cells[w]);
            }
        }

        int treadOf(int walker) {
            switch (kinds[walker]) {
                case HEAVY:
                case HORSE:
                    return 2 * weights[walker];
                case HOPPER:
                    return weights[walker] + 1;
                default:
                    return weights[walker];
            }
        }

        int shoesOf(int walker) {
            if (kinds[walker] != SHOD) {
                return walker;
            }
            return walker + 1 < walkers ? walker + 1 : 0;
        }

        void stepTo(int walker, int to) {
            int from = cells[walker];
            cells[walker] = to;
            steps[walker]++;
            if (comesDown(kinds[walker], steps[walker])) {
                int row = shoesOf(walker) * CELLS;
                deepen(prints, row + to, treadOf(walker));
                if (kinds[walker] == HORSE) {
                    deepen(prints, row + from, treadOf(walker));
                }
            }
        }

        void passHour() {
            for (int i = 0; i < walkers * CELLS; i++) {
                if (prints[i] > 0) {
                    prints[i] = depthBehind(prints[i], i % CELLS, 1);
                }
            }
            hour++;
        }

        /** How deep a print still is behind n hours. */
        int depthBehind(int depth, int cell, int n) {
            int row = rowOf(cell);
            if (row < settings[FLOOD] && isTideWithin(n)) {
                return 0;
            }
            int loss = row < settings[WET] ? n : n * settings[WIND];
            return Math.max(0, depth - loss);
        }

        boolean isTideWithin(int n) {
            int tide = settings[TIDE];
            return tide > 0 && (hour + n) / tide > hour / tide;
        }

        /** The cell that crabs rake next. */
        int drawCell() {
            draw = (int) (draw * 1103515245L + 12345L & 0x7FFFFFFFL);
            return draw >> 16 & CELLS - 1;
        }

        int sweep(int cell) {
            int gone = 0;
            for (int i = cell; i < ALL_PRINTS; i += CELLS) {
                if (prints[i] > 0) {
                    gone++;
                    prints[i] = 0;
                }
            }
            return gone;
        }

        boolean isTrodden(int cell) {
            for (int i = cell; i < ALL_PRINTS; i += CELLS) {
                if (prints[i] > 0) {
                    return true;
                }
            }
            return false;
        }

        int troddenCells() {
            int trodden = 0;
            for (int cell = 0; cell < CELLS; cell++) {
                if (isTrodden(cell)) {
                    trodden++;
                }
            }
            return trodden;
        }
    }

    /** What the latest deeds changed, as it was ahead of each: a ring, so that the oldest is lost to the newest. */
    private static final class Past {
        final int[] prints = new int[UNDO_MOST * ALL_PRINTS];
        final int[] cells = new int[UNDO_MOST * MOST_WALKERS];
        final int[] steps = new int[UNDO_MOST * MOST_WALKERS];
        final int[] hours = new int[UNDO_MOST];
        final int[] draws = new int[UNDO_MOST];
        int next = 0;
        int known = 0;

        void keep(Isle isle) {
            System.arraycopy(isle.prints, 0, prints, next * ALL_PRINTS, ALL_PRINTS);
            System.arraycopy(isle.cells, 0, cells, next * MOST_WALKERS, MOST_WALKERS);
            System.arraycopy(isle.steps, 0, steps, next * MOST_WALKERS, MOST_WALKERS);
            hours[next] = isle.hour;
            draws[next] = isle.draw;
            next = (next + 1) % UNDO_MOST;
            known = Math.min(UNDO_MOST, known + 1);
        }

        /** Takes the latest one back; there must be one. */
        void giveBack(Isle isle) {
            next = (next + UNDO_MOST - 1) % UNDO_MOST;
            known--;
            System.arraycopy(prints, next * ALL_PRINTS, isle.prints, 0, ALL_PRINTS);
            System.arraycopy(cells, next * MOST_WALKERS, isle.cells, 0, MOST_WALKERS);
            System.arraycopy(steps, next * MOST_WALKERS, isle.steps, 0, MOST_WALKERS);
            isle.hour = hours[next];
            isle.draw = draws[next];
        }

        void forget() {
            known = 0;
        }

        void become(Past other) {
            System.arraycopy(other.prints, 0, prints, 0, prints.length);
            System.arraycopy(other.cells, 0, cells, 0, cells.length);
            System.arraycopy(other.steps, 0, steps, 0, steps.length);
            System.arraycopy(other.hours, 0, hours, 0, hours.length);
            System.arraycopy(other.draws, 0, draws, 0, draws.length);
            next = other.next;
            known = other.known;
        }
    }

    /** Who claims and holds what, behind some hours; made anew for each look. */
    private static final class Survey {
        final int[] claims = new int[ALL_PRINTS];
        final int[] lands = new int[MOST_WALKERS];
        int heldCells = 0;
        int walkers = 0;

        void look(Isle isle, int n) {
            lookWithout(isle, n, NONE);
        }

        /** As all would be if one cell were raked first. */
        void lookWithout(Isle isle, int n, int raked) {
            walkers = isle.walkers;
            Arrays.fill(claims, 0);
            for (int i = 0; i < walkers * CELLS; i++) {
                int cell = i % CELLS;
                if (isle.prints[i] > 0 && cell != raked) {
                    raise(i - cell, cell, isle.depthBehind(isle.prints[i], cell, n), isle.settings[REACH]);
                }
            }
            tally();
        }

        /** Counts who holds how much by the claims as they stand. */
        void tally() {
            Arrays.fill(lands, 0);
            heldCells = 0;
            for (int cell = 0; cell < CELLS; cell++) {
                int holder = holderOf(cell);
                if (holder >= 0) {
                    lands[holder]++;
                    heldCells++;
                }
            }
        }

        int holderOf(int cell) {
            int best = 0;
            int holder = NONE;
            for (int w = 0; w < walkers; w++) {
                int mine = claims[w * CELLS + cell];
                if (mine > best) {
                    best = mine;
                    holder = w;
                } else if (mine == best) {
                    holder = NONE;
                }
            }
            return holder;
        }

        /** Lifts the claims round a cell, in the row of one walker, to what a print there makes. */
        void raise(int row, int cell, int depth, int reach) {
            int lastX = Math.min(SIDE - 1, columnOf(cell) + reach);
            int lastY = Math.min(SIDE - 1, rowOf(cell) + reach);
            for (int y = Math.max(0, rowOf(cell) - reach); y <= lastY; y++) {
                for (int x = Math.max(0, columnOf(cell) - reach); x <= lastX; x++) {
                    int at = row + y * SIDE + x;
                    claims[at] = Math.max(claims[at], depth);
                }
            }
        }
    }

    /**
     * Steps of one walker tried out, with the claims behind some hours that come of them in a survey.
     * Steps only deepen prints: so the claims without steps are made once, and each trial lifts them.
     */
    private static final class Trial {
        final int[] prints = new int[CELLS];
        final int[] claims = new int[CELLS];
        int walker = 0;
        int row = 0;
        int hours = 0;

        void begin(Isle isle, Survey survey, int who, int n) {
            walker = who;
            hours = n;
            row = isle.shoesOf(who) * CELLS;
            survey.look(isle, n);
            System.arraycopy(survey.claims, row, claims, 0, CELLS);
        }

        /** Tries n steps, from where the walker is; false: they lead beyond the isle. */
        boolean go(Isle isle, Survey survey, int ways, int n) {
            System.arraycopy(isle.prints, row, prints, 0, CELLS);
            System.arraycopy(claims, 0, survey.claims, row, CELLS);
            int cell = isle.cells[walker];
            for (int k = 0; k < n; k++) {
                int to = beside(cell, wayAt(ways, n, k));
                if (to < 0) {
                    return false;
                }
                if (comesDown(isle.kinds[walker], isle.steps[walker] + k + 1)) {
                    tread(isle, survey, to);
                    if (isle.kinds[walker] == HORSE) {
                        tread(isle, survey, cell);
                    }
                }
                cell = to;
            }
            return true;
        }

        private void tread(Isle isle, Survey survey, int cell) {
            deepen(prints, cell, isle.treadOf(walker));
            survey.raise(row, cell, isle.depthBehind(prints[cell], cell, hours), isle.settings[REACH]);
        }
    }

    /** Letters as they are typed, and the isle that they tell. */
    private static final class Tape {
        final int[] letters = new int[TAPE_MOST];
        final int[] kinds = new int[MOST_WALKERS];
        final int[] weights = new int[MOST_WALKERS];
        final int[] cells = new int[MOST_WALKERS];
        int length = 0;
        int place = 0;
        int wind = 0;
        int reach = 0;
        int walkers = 0;

        boolean put(int letter) {
            if (length >= TAPE_MOST) {
                return false;
            }
            letters[length] = letter;
            length++;
            return true;
        }

        /** How many walkers the letters tell, or the fault. */
        int parse() {
            place = 0;
            walkers = 0;
            wind = take('0', '9');
            reach = wind < 0 ? -1 : take('0', '3');
            if (reach < 0 || take(';', ';') < 0) {
                return FAULT - place;
            }
            for (int w = 0; w < MOST_WALKERS; w++) {
                if (w > 0 && take(',', ',') < 0 || !takeWalker(w)) {
                    return FAULT - place;
                }
                walkers = w + 1;
                skipBlanks();
                if (place >= length) {
                    return walkers;
                }
            }
            return FAULT - place;
        }

        private boolean takeWalker(int number) {
            int kind = takeKind();
            int weight = kind < 0 ? -1 : take('1', '9');
            int x = weight < 0 ? -1 : take('0', '7');
            int y = x < 0 ? -1 : take('0', '7');
            if (y < 0) {
                return false;
            }
            kinds[number] = kind;
            weights[number] = weight + 1;
            cells[number] = y * SIDE + x;
            return true;
        }

        private int takeKind() {
            skipBlanks();
            int kind = place < length ? KIND_LETTERS.indexOf((char) letters[place]) : -1;
            if (kind >= 0) {
                place++;
            }
            return kind;
        }

        /** How far the next letter is behind the first of some, if it is one of them: then it is taken; else -1. */
        private int take(char first, char last) {
            skipBlanks();
            if (place >= length || letters[place] < first || letters[place] > last) {
                return -1;
            }
            place++;
            return letters[place - 1] - first;
        }

        private void skipBlanks() {
            while (place < length && letters[place] == ' ') {
                place++;
            }
        }
    }

    /** Nothing, or a row of a lane; every item is kept as the number that its lane makes of it. */
    private static final class Sheet {
        final long[] items = new long[ITEMS_MOST];
        int lane = -1;
        int size = 0;

        boolean isNothing() {
            return lane < 0;
        }

        void begin(int newLane, int newSize) {
            lane = newLane;
            size = newSize;
            Arrays.fill(items, 0L);
        }

        int end() {
            int had = size;
            lane = -1;
            size = 0;
            return had;
        }

        boolean spans(int i, int n) {
            return i >= 0 && n >= 0 && n <= size - i;
        }

        boolean isWithin(int i, int most) {
            return items[i] >= 0 && items[i] <= most;
        }
    }
}
