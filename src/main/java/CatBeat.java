import java.util.Arrays;

/** A ward of shops, the beat that a constable walks through it, and the thieves who study that beat. */
public final class CatBeat {
    public static final int NONE = -1, BAD = -2, NOT = -3, FULL = -4;

    private static final int WARD = 0, BEAT = 1, THIEVES = 2;
    private static final int START = 0, GIRTH = 1, SIGHT = 2, FOG = 3;
    private static final int NULL = 1, INDEX = 2, CAST = 3, STORE = 4, SIZE = 5;

    private static final int MOST_CELLS = 36, MOST_STEPS = 24, MOST_THIEVES = 8, MOST_MISSED = 8;
    private static final int MOST_ITEMS = 60, MOST_GIRTH = 9, MOST_FOGGED = 9, LONGEST_NEED = 9;
    private static final int MOMENTS = 96, DIRECTIONS = 4, KINDS_OF_STEP = 5;
    private static final int HALF_CELLS = 18, HALF_MASK = (1 << HALF_CELLS) - 1;
    private static final int SIXTEENTHS = 16;

    private static final int LEAST_INT = 1 << 31;
    private static final long LEAST_LONG = 1L << 63;

    private static final int[] TEXT_LIMITS = {41, 24, 31};
    private static final int[] MOST_OF_SETTING = {35, 9, 9, 1};
    private static final int[] DIGESTED_MOMENTS = {0, 7, 50, 95};

    private final Text[] texts = new Text[3];
    private final int[] faults = {NONE, NONE, NONE};
    private final int[] settings = {0, 5, 3, 0};
    private final Ward ward = new Ward();
    private final Round round = new Round();
    private final Thieves thieves = new Thieves();
    private final Missed missing = new Missed();
    private final Sheet[] sheets = new Sheet[4];
    private final Ground ground = new Ground();
    private final Night night = new Night();
    private final Round otherRound = new Round();
    private final Ground otherGround = new Ground();
    private final Night otherNight = new Night();
    private final Odds odds = new Odds();
    private final int[] takings = new int[MOST_CELLS];
    private int latestFinding = 0;
    private boolean stale = true;
    /** The steps that trim() tells, as bits; NONE: not looked for since the last change. */
    private int trimmed = NONE;

    public CatBeat() {
        for (int text = 0; text < texts.length; text++) {
            texts[text] = new Text(TEXT_LIMITS[text]);
        }
        for (int s = 0; s < sheets.length; s++) {
            sheets[s] = new Sheet();
        }
    }

    // ---- the ward, the beat, thieves

    public int type(int text, int b) {
        if (!isText(text) || b < 0 || b > 255) {
            return BAD;
        }
        if (!texts[text].append(b)) {
            return FULL;
        }
        readAgain(text);
        return texts[text].length;
    }

    public int wipe(int text) {
        if (!isText(text)) {
            return BAD;
        }
        int had = texts[text].length;
        texts[text].length = 0;
        readAgain(text);
        return had;
    }

    public int undo(int text) {
        if (!isText(text)) {
            return BAD;
        }
        if (texts[text].length == 0) {
            return NOT;
        }
        texts[text].length--;
        readAgain(text);
        return texts[text].length;
    }

    public int fault(int text) {
        return isText(text) ? faults[text] : BAD;
    }

    public int cell(int cell) {
        if (cell < 0 || cell >= MOST_CELLS) {
            return BAD;
        }
        return cell < ward.count ? ward.kinds[cell] : NONE;
    }

    public int beat(int step) {
        if (step < 0 || step >= MOST_STEPS) {
            return BAD;
        }
        return step < round.count ? round.steps[step] : NONE;
    }

    public int thief(int thief, int what) {
        if (!isThief(thief) || !isEither(what)) {
            return BAD;
        }
        return what == 0 ? thieves.wants[thief] : thieves.needs[thief];
    }

    public int set(int what, int v) {
        if (what < 0 || what >= settings.length || v < 0 || v > MOST_OF_SETTING[what]) {
            return BAD;
        }
        int was = settings[what];
        settings[what] = v;
        stale = true;
        return was;
    }

    // ---- a night

    public int at(int steps) {
        if (!isMoment(steps)) {
            return BAD;
        }
        settle();
        return night.places[steps];
    }

    public int sees(int steps, int half) {
        if (!isMoment(steps) || !isEither(half)) {
            return BAD;
        }
        settle();
        return halfOf(night.views[steps], half);
    }

    public int seen(int cell, int what) {
        if (!ward.has(cell) || !isEither(what)) {
            return BAD;
        }
        settle();
        return what == 0 ? night.momentsSeen(cell) : night.longestUnseen(cell);
    }

    public int takes(int thief) {
        if (!isThief(thief)) {
            return BAD;
        }
        settle();
        return thieves.takesBehind(thief, ward, night);
    }

    public int safe(int half) {
        if (!isEither(half)) {
            return BAD;
        }
        settle();
        return halfOf(ward.shops & ~thieves.takenFrom(ward, night, NONE), half);
    }

    public int lost() {
        settle();
        return thieves.howManyTake(ward, night);
    }

    public int first() {
        settle();
        int first = NONE;
        int earliest = MOMENTS;
        for (int thief = 0; thief < thieves.count; thief++) {
            int behind = thieves.takesBehind(thief, ward, night);
            if (behind != NONE && behind < earliest) {
                first = thief;
                earliest = behind;
            }
        }
        return first;
    }

    // ---- beats

    public int spare() {
        int most = lost();
        int spared = 0;
        for (int step = 0; step < round.count; step++) {
            if (lostWithout(step, NONE) <= most) {
                spared |= 1 << step;
            }
        }
        return spared;
    }

    public int trim(int i) {
        if (i < NONE || i > 1) {
            return BAD;
        }
        settle();
        if (trimmed == NONE) {
            trimmed = fewestLeftOut();
        }
        if (i == NONE) {
            return trimmed == 0 ? NONE : Integer.bitCount(trimmed);
        }
        return placeOfBit(trimmed, i);
    }

    public int begin(int what) {
        if (!isEither(what)) {
            return BAD;
        }
        settle();
        int best = NONE;
        int fewest = NONE;
        for (int cell = 0; cell < ward.count; cell++) {
            if (ground.holds(cell)) {
                otherNight.walk(ground, cell, round);
                int taking = thieves.howManyTake(ward, otherNight);
                if (best == NONE || taking < fewest) {
                    best = cell;
                    fewest = taking;
                }
            }
        }
        return what == 0 ? best : fewest;
    }

    public int recruit(int what) {
        if (!isEither(what)) {
            return BAD;
        }
        int best = NONE;
        int fewest = NONE;
        for (int girth = 0; girth <= MOST_GIRTH; girth++) {
            otherGround.lay(ward, girth, presentSight());
            otherNight.walk(otherGround, settings[START], round);
            int taking = thieves.howManyTake(ward, otherNight);
            if (best == NONE || taking < fewest) {
                best = girth;
                fewest = taking;
            }
        }
        return what == 0 ? best : fewest;
    }

    // ---- missed, fog, nights

    public int missed(int cell, int is) {
        if (!Missed.mayBe(cell, is)) {
            return BAD;
        }
        return missing.add(cell, is) ? missing.count : FULL;
    }

    public int forget() {
        int had = missing.count;
        missing.count = 0;
        return had;
    }

    public int read(int s) {
        if (!isSheet(s)) {
            return BAD;
        }
        if (sheets[s].lost) {
            return found(NULL);
        }
        return missing.addFrom(sheets[s]);
    }

    public int omitted() {
        settle();
        int steps = 0;
        for (int step = 0; step < round.count; step++) {
            if (missing.agreesWith(takenFromWithout(step))) {
                steps |= 1 << step;
            }
        }
        return steps;
    }

    public int meant(int thief, int i) {
        if (!isThief(thief) || i < NONE || i >= MOST_CELLS) {
            return BAD;
        }
        settle();
        long cells = cellsMeant(thief);
        return i == NONE ? Long.bitCount(cells) : placeOfBit(cells, i);
    }

    public int ask() {
        settle();
        Arrays.fill(takings, 0);
        int nights = 0;
        for (int step = 0; step < round.count; step++) {
            long taken = takenFromWithout(step);
            if (missing.agreesWith(taken)) {
                nights++;
                countTakings(taken);
            }
        }
        return mostTellingShop(nights);
    }

    public long fogged(int c, int steps, int thief, int what) {
        if (c < 0 || c > SIXTEENTHS || steps < 0 || steps > MOST_FOGGED || !isThief(thief) || !isEither(what)) {
            return LEAST_LONG - BAD;
        }
        settle();
        long above = waysToTake(c, steps, thief);
        int halvings = 4 * (steps + 1);
        long below = 1L << halvings;
        // Below is a power of two, so that halves are all that above and below can share.
        for (int i = 0; i < halvings && above % 2 == 0; i++) {
            above /= 2;
            below /= 2;
        }
        return what == 0 ? above : below;
    }

    public int nights(int seed, int n, int what) {
        if (n < 1 || n > MOST_STEPS || !isEither(what)) {
            return BAD;
        }
        settle();
        otherRound.drawLots(seed, n);
        otherNight.walk(ground, settings[START], otherRound);
        return what == 0 ? thieves.howManyTake(ward, otherNight) : otherNight.places[n];
    }

    // ---- sheets

    public int sheet(int s, int form, int n) {
        if (!isSheet(s) || !Sheet.isForm(form) || n > MOST_ITEMS) {
            return BAD;
        }
        if (n < 0) {
            return found(SIZE);
        }
        sheets[s].renew(form, n);
        return n;
    }

    public int lose(int s) {
        if (!isSheet(s)) {
            return BAD;
        }
        if (sheets[s].lost) {
            return found(NULL);
        }
        sheets[s].lost = true;
        return sheets[s].size;
    }

    public int put(int s, int form, int i, int v) {
        if (!isSheet(s) || !Sheet.isForm(form)) {
            return BAD;
        }
        int finding = sheets[s].findingOf(form, i);
        if (finding != 0) {
            return found(finding);
        }
        sheets[s].store(i, v);
        return 1;
    }

    public int get(int s, int form, int i) {
        if (!isSheet(s) || !Sheet.isForm(form)) {
            return LEAST_INT;
        }
        int finding = sheets[s].findingOf(form, i);
        if (finding != 0) {
            latestFinding = finding;
            return LEAST_INT;
        }
        return sheets[s].items[i];
    }

    public int copy(int s, int i, int t, int j, int n) {
        if (!isSheet(s) || !isSheet(t)) {
            return BAD;
        }
        Sheet from = sheets[s];
        Sheet to = sheets[t];
        if (from.lost || to.lost) {
            return found(NULL);
        }
        if (from.form != to.form) {
            return found(STORE);
        }
        if (!from.hasItems(i, n) || !to.hasItems(j, n)) {
            return found(INDEX);
        }
        System.arraycopy(from.items, i, to.items, j, n);
        return 1;
    }

    public int write(int s) {
        if (!isSheet(s)) {
            return BAD;
        }
        Sheet sheet = sheets[s];
        if (sheet.lost) {
            return found(NULL);
        }
        settle();
        for (int i = 0; i < sheet.size && i < MOMENTS; i++) {
            sheet.store(i, night.places[i]);
        }
        return sheet.size;
    }

    public int count(int what) {
        switch (what) {
            case 0: return ward.count;
            case 1: return round.count;
            case 2: return thieves.count;
            case 3: return texts[WARD].length;
            case 4: return texts[BEAT].length;
            case 5: return texts[THIEVES].length;
            case 6: return Long.bitCount(ward.shops);
            case 7: return missing.count;
            case 8: return latestFinding;
            default: return BAD;
        }
    }

    public long digest() {
        long h = 17;
        for (int what = 0; what <= 7; what++) {
            h = 31 * h + count(what);
        }
        for (int text = 0; text < texts.length; text++) {
            h = 31 * h + fault(text);
        }
        h = digestCells(h);
        for (int step = 0; step < round.count; step++) {
            h = 31 * h + beat(step);
        }
        for (int thief = 0; thief < thieves.count; thief++) {
            h = digestThief(h, thief);
        }
        h = digestMoments(h);
        h = 31 * h + safe(0);
        h = 31 * h + safe(1);
        h = 31 * h + lost();
        h = 31 * h + first();
        h = 31 * h + spare();
        h = 31 * h + trim(NONE);
        h = 31 * h + trim(0);
        h = 31 * h + begin(0);
        h = 31 * h + begin(1);
        h = 31 * h + recruit(0);
        h = 31 * h + recruit(1);
        h = 31 * h + omitted();
        h = 31 * h + ask();
        h = 31 * h + nights(7, 12, 0);
        h = 31 * h + nights(7, 12, 1);
        return h;
    }

    // ---- parts of the digest

    private long digestCells(long before) {
        long h = before;
        for (int cell = 0; cell < ward.count; cell++) {
            h = 31 * h + cell(cell);
            h = 31 * h + seen(cell, 0);
            h = 31 * h + seen(cell, 1);
        }
        return h;
    }

    private long digestThief(long before, int thief) {
        long h = before;
        h = 31 * h + thief(thief, 0);
        h = 31 * h + thief(thief, 1);
        h = 31 * h + takes(thief);
        h = 31 * h + meant(thief, NONE);
        h = 31 * h + meant(thief, 0);
        h = 31 * h + fogged(5, 5, thief, 0);
        h = 31 * h + fogged(5, 5, thief, 1);
        return h;
    }

    private long digestMoments(long before) {
        long h = before;
        for (int steps : DIGESTED_MOMENTS) {
            h = 31 * h + at(steps);
            h = 31 * h + sees(steps, 0);
            h = 31 * h + sees(steps, 1);
        }
        return h;
    }

    // ---- what may be told

    private boolean isText(int text) {
        return text >= 0 && text < texts.length;
    }

    private boolean isThief(int thief) {
        return thief >= 0 && thief < thieves.count;
    }

    private boolean isSheet(int s) {
        return s >= 0 && s < sheets.length;
    }

    private static boolean isMoment(int steps) {
        return steps >= 0 && steps < MOMENTS;
    }

    private static boolean isEither(int what) {
        return what == 0 || what == 1;
    }

    private int found(int finding) {
        latestFinding = finding;
        return -10 - finding;
    }

    // ---- the present state

    private void readAgain(int text) {
        switch (text) {
            case WARD: faults[WARD] = ward.parse(texts[WARD]); break;
            case BEAT: faults[BEAT] = round.parse(texts[BEAT]); break;
            case THIEVES: faults[THIEVES] = thieves.parse(texts[THIEVES]); break;
            default: break;
        }
        stale = true;
    }

    /** Every call that needs the night begins with this: it is walked anew only behind a change. */
    private void settle() {
        if (stale) {
            ground.lay(ward, settings[GIRTH], presentSight());
            night.walk(ground, settings[START], round);
            trimmed = NONE;
            stale = false;
        }
    }

    private int presentSight() {
        return settings[FOG] == 1 ? foggySight() : settings[SIGHT];
    }

    private int foggySight() {
        return Math.min(settings[SIGHT], 1);
    }

    // ---- beats with steps left out

    private int lostWithout(int step, int another) {
        otherRound.takeAllBut(round, step, another);
        otherNight.walk(ground, settings[START], otherRound);
        return thieves.howManyTake(ward, otherNight);
    }

    private long takenFromWithout(int step) {
        otherRound.takeAllBut(round, step, NONE);
        otherNight.walk(ground, settings[START], otherRound);
        return thieves.takenFrom(ward, otherNight, NONE);
    }

    /** The steps that trim() tells, as bits; 0 if there are none. */
    private int fewestLeftOut() {
        int now = thieves.howManyTake(ward, night);
        if (now == 0) {
            return 0;
        }
        for (int step = 0; step < round.count; step++) {
            if (lostWithout(step, NONE) < now) {
                return 1 << step;
            }
        }
        for (int step = 0; step < round.count; step++) {
            for (int later = step + 1; later < round.count; later++) {
                if (lostWithout(step, later) < now) {
                    return 1 << step | 1 << later;
                }
            }
        }
        return 0;
    }

    /** The place of the i-th bit that is set (from 0 on), or NONE. */
    private static int placeOfBit(long bits, int i) {
        int left = i;
        for (int place = 0; place < MOST_CELLS; place++) {
            if ((bits >>> place & 1L) != 0) {
                if (left == 0) {
                    return place;
                }
                left--;
            }
        }
        return NONE;
    }

    private static int halfOf(long cells, int half) {
        return (int) (cells >>> half * HALF_CELLS) & HALF_MASK;
    }

    // ---- what was meant, what to ask, what fog does

    private long cellsMeant(int thief) {
        long byOthers = thieves.takenFrom(ward, night, thief);
        long meant = 0;
        for (int cell = 0; cell < ward.count; cell++) {
            boolean taken = ward.isShop(cell) && night.endOfUnseen(cell, thieves.needs[thief]) != NONE;
            if (missing.agreesWith(taken ? byOthers | 1L << cell : byOthers)) {
                meant |= 1L << cell;
            }
        }
        return meant;
    }

    private void countTakings(long taken) {
        for (int cell = 0; cell < takings.length; cell++) {
            takings[cell] += (int) (taken >>> cell & 1L);
        }
    }

    private int mostTellingShop(int nights) {
        int best = NONE;
        int least = 0;
        for (int cell = 0; cell < ward.count; cell++) {
            if (ward.isShop(cell)) {
                int greatest = Math.max(takings[cell], nights - takings[cell]);
                if (best == NONE || greatest < least) {
                    best = cell;
                    least = greatest;
                }
            }
        }
        return best;
    }

    /** In how many of 16 to the power of (steps + 1) like ways of the fog the thief takes something. */
    private long waysToTake(int c, int steps, int thief) {
        int cell = thieves.wants[thief];
        if (!ward.isShop(cell)) {
            return 0;
        }
        odds.startFor(thieves.needs[thief]);
        for (int behind = 0; behind < MOMENTS; behind++) {
            int place = night.places[behind];
            int clear = ward.isInView(place, cell, settings[SIGHT]) ? 0 : 1;
            if (behind <= steps) {
                int foggy = ward.isInView(place, cell, foggySight()) ? 0 : 1;
                odds.goOn(clear * (SIXTEENTHS - c) + foggy * c, SIXTEENTHS);
            } else {
                odds.goOn(clear, 1);
            }
        }
        return odds.taken();
    }

    /** Bytes typed one behind the other, up to a limit. */
    private static final class Text {
        final int[] bytes;
        int length = 0;

        Text(int limit) {
            bytes = new int[Math.max(limit, 0)];
        }

        boolean append(int b) {
            if (length >= bytes.length) {
                return false;
            }
            bytes[length] = b;
            length++;
            return true;
        }
    }

    /** The cells, row by row. */
    private static final class Ward {
        static final int OPEN = 0, WALL = 1, SHOP = 2, LEDGE = 3, DRAIN = 4;
        static final int MOST_ROWS = 6, MOST_COLUMNS = 6;

        final int[] kinds = new int[MOST_CELLS];
        int count = 0;
        int width = 0;
        long shops = 0;

        /** Answers the fault, or NONE; with a fault there are no cells. */
        int parse(Text text) {
            clear();
            int row = 0;
            int column = 0;
            for (int i = 0; i < text.length; i++) {
                int kind = kindOf(text.bytes[i]);
                if (row == MOST_ROWS) {
                    return fail(i);
                }
                if (kind != NONE && column < (row == 0 ? MOST_COLUMNS : width)) {
                    addCell(kind);
                    column++;
                } else if (text.bytes[i] == ';' && column > 0 && (row == 0 || column == width)) {
                    width = column;
                    row++;
                    column = 0;
                } else {
                    return fail(i);
                }
            }
            if (text.length > 0 && (column == 0 || row > 0 && column < width)) {
                return fail(text.length);
            }
            width = column;
            return NONE;
        }

        private int fail(int place) {
            clear();
            return place;
        }

        private void clear() {
            count = 0;
            width = 0;
            shops = 0;
        }

        private void addCell(int kind) {
            if (count < kinds.length) {
                kinds[count] = kind;
                shops |= kind == SHOP ? 1L << count : 0L;
                count++;
            }
        }

        private static int kindOf(int b) {
            switch (b) {
                case '.': return OPEN;
                case '#': return WALL;
                case 's': return SHOP;
                case 'l': return LEDGE;
                case 'd': return DRAIN;
                default: return NONE;
            }
        }

        boolean has(int cell) {
            return cell >= 0 && cell < count;
        }

        boolean isShop(int cell) {
            return cell >= 0 && cell < count && kinds[cell] == SHOP;
        }

        boolean isFor(int girth, int cell) {
            if (!has(cell)) {
                return false;
            }
            switch (kinds[cell]) {
                case WALL: return false;
                case LEDGE: return girth <= 7;
                case DRAIN: return girth <= 2;
                default: return true;
            }
        }

        /** The cell where a step leads from a cell that there is, whatever stands there; NONE beyond the edge. */
        int neighbour(int cell, int step) {
            int column = width == 0 ? 0 : cell % width;
            switch (step) {
                case Round.NORTH: return cell >= width ? cell - width : NONE;
                case Round.EAST: return column + 1 < width ? cell + 1 : NONE;
                case Round.SOUTH: return cell + width < count ? cell + width : NONE;
                case Round.WEST: return column > 0 ? cell - 1 : NONE;
                default: return cell;
            }
        }

        long viewFrom(int place, int sight) {
            if (!has(place)) {
                return 0;
            }
            long view = 1L << place;
            for (int direction = 0; direction < DIRECTIONS; direction++) {
                int cell = neighbour(place, direction);
                for (int away = 1; away <= sight && has(cell) && kinds[cell] != WALL; away++) {
                    view |= 1L << cell;
                    cell = neighbour(cell, direction);
                }
            }
            return view;
        }

        boolean isInView(int place, int cell, int sight) {
            return (viewFrom(place, sight) >>> cell & 1L) != 0;
        }
    }

    /** The steps that are walked round and round. */
    private static final class Round {
        static final int NORTH = 0, EAST = 1, SOUTH = 2, WEST = 3, STAY = 4;

        final int[] steps = new int[MOST_STEPS];
        int count = 0;

        /** Answers the fault, or NONE; with a fault there are no steps. */
        int parse(Text text) {
            count = 0;
            for (int i = 0; i < text.length; i++) {
                int step = stepOf(text.bytes[i]);
                if (step == NONE) {
                    count = 0;
                    return i;
                }
                add(step);
            }
            return NONE;
        }

        private static int stepOf(int b) {
            switch (b) {
                case 'n': return NORTH;
                case 'e': return EAST;
                case 's': return SOUTH;
                case 'w': return WEST;
                case '.': return STAY;
                default: return NONE;
            }
        }

        private void add(int step) {
            if (count < steps.length) {
                steps[count] = step;
                count++;
            }
        }

        void takeAllBut(Round whole, int step, int another) {
            count = 0;
            for (int i = 0; i < whole.count; i++) {
                if (i != step && i != another) {
                    add(whole.steps[i]);
                }
            }
        }

        void drawLots(int seed, int n) {
            count = 0;
            int drawn = seed;
            for (int i = 0; i < n; i++) {
                drawn = 1103515245 * drawn + 12345;
                add((drawn >>> 16) % KINDS_OF_STEP);
            }
        }
    }

    /** Who wants which cell, and how long it must be unseen. */
    private static final class Thieves {
        final int[] wants = new int[MOST_THIEVES];
        final int[] needs = new int[MOST_THIEVES];
        int count = 0;

        /** Answers the fault, or NONE; with a fault there are no thieves. */
        int parse(Text text) {
            count = 0;
            for (int i = 0; i < text.length; i++) {
                if (!mayStandAt(i % 4, text.bytes[i])) {
                    return fail(i);
                }
                if (i % 4 == 2 && !add(text, i - 2)) {
                    return fail(i - 2);
                }
            }
            return text.length == 0 || text.length % 4 == 3 ? NONE : fail(text.length);
        }

        private static boolean mayStandAt(int place, int b) {
            switch (place) {
                case 0: return b >= '0' && b <= '3';
                case 1: return b >= '0' && b <= '9';
                case 2: return b >= '1' && b <= '9';
                default: return b == ';';
            }
        }

        private boolean add(Text text, int from) {
            if (count >= wants.length || from < 0 || from + 2 >= text.length) {
                return false;
            }
            wants[count] = 10 * (text.bytes[from] - '0') + text.bytes[from + 1] - '0';
            needs[count] = text.bytes[from + 2] - '0';
            count++;
            return true;
        }

        private int fail(int place) {
            count = 0;
            return place;
        }

        int takesBehind(int thief, Ward ward, Night night) {
            if (thief < 0 || thief >= count || !ward.isShop(wants[thief])) {
                return NONE;
            }
            return night.endOfUnseen(wants[thief], needs[thief]);
        }

        int howManyTake(Ward ward, Night night) {
            int taking = 0;
            for (int thief = 0; thief < count; thief++) {
                if (takesBehind(thief, ward, night) != NONE) {
                    taking++;
                }
            }
            return taking;
        }

        /** The cells that any thief but one (NONE: any at all) takes from, as bits. */
        long takenFrom(Ward ward, Night night, int but) {
            long taken = 0;
            for (int thief = 0; thief < count; thief++) {
                if (thief != but && takesBehind(thief, ward, night) != NONE) {
                    taken |= 1L << wants[thief];
                }
            }
            return taken;
        }
    }

    /** Where a constable of one girth gets by each step, and what it sees: looked up often, so laid out once. */
    private static final class Ground {
        final int[] next = new int[MOST_CELLS * KINDS_OF_STEP];
        final long[] views = new long[MOST_CELLS];
        final boolean[] held = new boolean[MOST_CELLS];
        int count = 0;

        void lay(Ward ward, int girth, int sight) {
            count = Math.min(ward.count, MOST_CELLS);
            for (int cell = 0; cell < count; cell++) {
                held[cell] = ward.isFor(girth, cell);
                views[cell] = ward.viewFrom(cell, sight);
                for (int step = 0; step < KINDS_OF_STEP; step++) {
                    int to = ward.neighbour(cell, step);
                    next[cell * KINDS_OF_STEP + step] = ward.isFor(girth, to) ? to : cell;
                }
            }
        }

        boolean holds(int cell) {
            return cell >= 0 && cell < count && held[cell];
        }

        int stepFrom(int cell, int step) {
            if (cell < 0 || cell >= count || step < 0 || step >= KINDS_OF_STEP) {
                return cell;
            }
            return next[cell * KINDS_OF_STEP + step];
        }
    }

    /** Where the constable is, and what it sees, behind each number of steps. */
    private static final class Night {
        final int[] places = new int[MOMENTS];
        final long[] views = new long[MOMENTS];

        void walk(Ground ground, int start, Round round) {
            int place = ground.holds(start) ? start : NONE;
            int step = 0;
            for (int behind = 0; behind < MOMENTS; behind++) {
                places[behind] = place;
                views[behind] = ground.holds(place) ? ground.views[place] : 0L;
                if (step < round.count) {
                    place = ground.stepFrom(place, round.steps[step]);
                }
                step = step + 1 < round.count ? step + 1 : 0;
            }
        }

        int momentsSeen(int cell) {
            long bit = 1L << cell;
            int moments = 0;
            for (int behind = 0; behind < MOMENTS; behind++) {
                if ((views[behind] & bit) != 0) {
                    moments++;
                }
            }
            return moments;
        }

        int longestUnseen(int cell) {
            long bit = 1L << cell;
            int longest = 0;
            int unseen = 0;
            for (int behind = 0; behind < MOMENTS; behind++) {
                unseen = (views[behind] & bit) != 0 ? 0 : unseen + 1;
                longest = Math.max(longest, unseen);
            }
            return longest;
        }

        /** Behind how many steps a cell has first been unseen so long; NONE. */
        int endOfUnseen(int cell, int need) {
            long bit = 1L << cell;
            int unseen = 0;
            for (int behind = 0; behind < MOMENTS; behind++) {
                unseen = (views[behind] & bit) != 0 ? 0 : unseen + 1;
                if (unseen >= need) {
                    return behind;
                }
            }
            return NONE;
        }
    }

    /** Of which cells it is known whether they had been taken from by the end of the night. */
    private static final class Missed {
        final int[] cells = new int[MOST_MISSED];
        final int[] outcomes = new int[MOST_MISSED];
        int count = 0;

        static boolean mayBe(int cell, int is) {
            return cell >= 0 && cell < MOST_CELLS && isEither(is);
        }

        boolean add(int cell, int is) {
            if (count >= cells.length) {
                return false;
            }
            cells[count] = cell;
            outcomes[count] = is;
            count++;
            return true;
        }

        /** Answers how many came from the sheet: the first that may not be ends it. */
        int addFrom(Sheet sheet) {
            int added = 0;
            for (int i = 0; i + 1 < sheet.size; i += 2) {
                int cell = sheet.items[i];
                int is = sheet.items[i + 1];
                if (!mayBe(cell, is) || !add(cell, is)) {
                    return added;
                }
                added++;
            }
            return added;
        }

        boolean agreesWith(long taken) {
            for (int i = 0; i < count; i++) {
                if ((taken >>> cells[i] & 1L) != outcomes[i]) {
                    return false;
                }
            }
            return true;
        }
    }

    /** In how many like ways a shop has now been unseen for each number of moments, or has been taken from. */
    private static final class Odds {
        final long[] ways = new long[LONGEST_NEED + 1];
        int need = 1;

        void startFor(int momentsUnseen) {
            need = Math.max(1, Math.min(momentsUnseen, LONGEST_NEED));
            Arrays.fill(ways, 0L);
            ways[0] = 1;
        }

        /** A moment more, which leaves the shop unseen in some of all its ways. */
        void goOn(long unseen, long all) {
            long seenWays = 0;
            ways[need] = ways[need] * all + ways[need - 1] * unseen;
            for (int run = need - 1; run >= 0; run--) {
                seenWays += ways[run] * (all - unseen);
                ways[run] = run == 0 ? seenWays : ways[run - 1] * unseen;
            }
        }

        long taken() {
            return ways[need];
        }
    }

    /** A row of bytes, shorts or ints, or none. All are kept as ints, cut to what the form can hold. */
    private static final class Sheet {
        static final int BYTES = 0, SHORTS = 1, INTS = 2;

        final int[] items = new int[MOST_ITEMS];
        boolean lost = true;
        int form = BYTES;
        int size = 0;

        static boolean isForm(int form) {
            return form >= BYTES && form <= INTS;
        }

        void renew(int newForm, int n) {
            lost = false;
            form = newForm;
            size = Math.min(n, items.length);
            Arrays.fill(items, 0);
        }

        /** What stands against using an item as one of a form; 0: nothing does. */
        int findingOf(int wantedForm, int i) {
            if (lost) {
                return NULL;
            }
            if (wantedForm != form) {
                return CAST;
            }
            return hasItems(i, 1) ? 0 : INDEX;
        }

        boolean hasItems(int from, int n) {
            return from >= 0 && n >= 0 && from <= size && n <= size - from;
        }

        void store(int i, int v) {
            if (hasItems(i, 1)) {
                items[i] = form == BYTES ? (byte) v : form == SHORTS ? (short) v : v;
            }
        }
    }
}
