import java.util.Arrays;

/** Smokes that may not touch: a town of chimneys, its winds, and when its fires may be lit. */
public final class SmokesApart {
    /** There is none. */
    public static final int NONE = -1;

    private static final int NO_SUCH = -2;
    private static final int BAD_NUMBER = -3;
    private static final int TOO_MANY = -4;
    private static final int NOT_NOW = -5;
    private static final int ROW_MISSING = -6;
    private static final int NO_PLACE = -7;
    private static final int FAULTY_TEXT = -30;

    private static final int MAX_CHIMNEYS = 10;
    private static final int MAX_SMOKES = 6;
    private static final int MAX_WINDS = 12;
    private static final int MAX_BYTES = 900;
    private static final int BYTES_FED = 20;
    private static final int MAX_PAIRS = 45;
    private static final int QUARTERS = 48;
    private static final int LIGHTING_QUARTERS = 24;
    private static final int WIDTH = 40;
    private static final int LEVELS = 25;
    private static final int WIND_FORCES = 7;
    private static final int STILL = 3;
    private static final int MOST_RISE = 12;
    private static final int ROWS = 4;
    private static final int ROW_PLACES = 40;
    private static final int IMAGES = 2;
    private static final int MAX_SOUGHT = 5;
    private static final int MAX_SHEETED = 3;
    private static final int MAX_TOLD = 20;
    private static final int MAX_PLANS = 100000;
    private static final int CALM_SEEDS = 60;
    private static final int BREAKING_SEEDS = 200;
    private static final int WEIGHED_SEEDS = 20;

    private final byte[] tape = new byte[MAX_BYTES];
    private int taped;
    private final Town here = new Town();
    private final Reader reader = new Reader();
    private final Winds toldWinds = new Winds();
    private final Plumes plumes = new Plumes(here, toldWinds);
    private final Winds otherWinds = new Winds();
    private final Plumes otherPlumes = new Plumes(here, otherWinds);
    private final Judge court = new Judge(here, plumes);
    private final Seeker seeker = new Seeker(here, plumes);
    private final Days days = new Days(here, plumes);
    private final Forecast forecast = new Forecast(here, otherWinds, otherPlumes);
    private final NumberRow[] rows = new NumberRow[ROWS];
    private final Town[] images = new Town[IMAGES];
    private final int[] pairCodes = new int[MAX_PAIRS];
    private final int[] sootRow = new int[WIDTH];
    private final long[] smokyCells = new long[LEVELS];

    public SmokesApart() {
        for (int i = 0; i < ROWS; i++) {
            rows[i] = new NumberRow();
        }
        toldWinds.followTold(here);
    }

    // ---- the town

    public int feed(int a, int b, int c, int d, int e) {
        if (taped + BYTES_FED > MAX_BYTES) {
            return NOT_NOW;
        }
        putOnTape(a);
        putOnTape(b);
        putOnTape(c);
        putOnTape(d);
        putOnTape(e);
        return taped;
    }

    public int town(int n) {
        if (n < 0 || n > taped) {
            return BAD_NUMBER;
        }
        taped = 0;
        reader.readText(tape, n);
        if (reader.fault != 0) {
            return FAULTY_TEXT - reader.fault;
        }
        settle(reader.draft);
        return here.lines;
    }

    public int fault(int what) {
        switch (what) {
            case 0:
                return reader.fault;
            case 1:
                return reader.place;
            default:
                return NONE;
        }
    }

    public int chimney(int c, int what) {
        if (!here.has(c) || what < 0 || what > 5 && what < 10) {
            return NO_SUCH;
        }
        switch (what) {
            case 0:
                return here.xs[c];
            case 1:
                return here.heights[c];
            case 2:
                return here.froms[c];
            case 3:
                return here.tos[c];
            case 4:
                return here.smokeCounts[c];
            case 5:
                return here.litIn[c];
            default:
                int thickness = here.smokeOf(c, what - 10);
                return thickness == 0 ? NO_PLACE : thickness;
        }
    }

    public int wind(int q, boolean high) {
        if (!isQuarter(q)) {
            return BAD_NUMBER;
        }
        return high ? toldWinds.highs[q] : toldWinds.lows[q];
    }

    // ---- fires

    public int light(int c, int q) {
        if (!here.has(c)) {
            return NO_SUCH;
        }
        if (here.isLit(c)) {
            return NOT_NOW;
        }
        if (!here.mayBeLit(c, q)) {
            return BAD_NUMBER;
        }
        here.litIn[c] = q;
        return 0;
    }

    public int out(int c) {
        if (!here.has(c)) {
            return NO_SUCH;
        }
        if (!here.isLit(c)) {
            return NOT_NOW;
        }
        int q = here.litIn[c];
        here.litIn[c] = NONE;
        return q;
    }

    public int judge(int row, int what) {
        NumberRow told = rowAt(row);
        if (told == null || what < 0 || what > 2) {
            return NO_SUCH;
        }
        if (told.isMissing()) {
            return ROW_MISSING;
        }
        court.lightRow(told, false);
        switch (what) {
            case 0:
                return court.place;
            case 1:
                return court.why;
            default:
                return court.litThen;
        }
    }

    public int perform(int row) {
        NumberRow told = rowAt(row);
        if (told == null) {
            return NO_SUCH;
        }
        return told.isMissing() ? ROW_MISSING : court.lightRow(told, true);
    }

    // ---- smoke

    public int smoke(int q, int x, int height) {
        if (!isX(x) || height < 0 || height >= LEVELS) {
            return NO_SUCH;
        }
        if (!isQuarter(q)) {
            return BAD_NUMBER;
        }
        int sum = 0;
        for (int c = 0; c < here.chimneys; c++) {
            for (int k = 0; k < here.smokeCounts[c]; k++) {
                if (plumes.xOfPuff(c, k, q) == x && plumes.heightOfPuff(c, k, q) == height) {
                    sum += plumes.thicknessOfPuff(c, k, q);
                }
            }
        }
        return sum;
    }

    public int puffs(int q) {
        if (!isQuarter(q)) {
            return BAD_NUMBER;
        }
        int there = 0;
        for (int c = 0; c < here.chimneys; c++) {
            for (int k = 0; k < here.smokeCounts[c]; k++) {
                if (plumes.xOfPuff(c, k, q) != NONE) {
                    there++;
                }
            }
        }
        return there;
    }

    public int puff(int c, int k, int q, boolean high) {
        if (!here.has(c)) {
            return NO_SUCH;
        }
        if (!isQuarter(q)) {
            return BAD_NUMBER;
        }
        if (!here.isLit(c)) {
            return NOT_NOW;
        }
        int x = plumes.xOfPuff(c, k, q);
        return high && x != NONE ? plumes.heightOfPuff(c, k, q) : x;
    }

    public int touch(int c, int d) {
        if (!areTwo(c, d)) {
            return NO_SUCH;
        }
        long quarters = plumes.touchQuarters(c, d);
        return quarters == 0 ? NONE : Long.numberOfTrailingZeros(quarters);
    }

    public int touching(int c, int d) {
        if (!areTwo(c, d)) {
            return NO_SUCH;
        }
        return Long.bitCount(plumes.touchQuarters(c, d));
    }

    public int pair(int k) {
        int found = gatherPairs();
        if (k == NONE) {
            return found;
        }
        return k >= 0 && k < found ? pairCodes[k] : NONE;
    }

    public int pays(int c) {
        return here.has(c) ? dueFrom(c) : NO_SUCH;
    }

    public int soot(int x) {
        if (!isX(x)) {
            return NO_SUCH;
        }
        gatherSoot();
        return sootRow[x];
    }

    public int blackest() {
        gatherSoot();
        int black = 0;
        for (int x = 1; x < WIDTH; x++) {
            if (sootRow[x] > sootRow[black]) {
                black = x;
            }
        }
        return black;
    }

    // ---- lightings sought

    public int free(int c) {
        return here.has(c) ? plumes.freeQuarters(c) : NO_SUCH;
    }

    public int plan(int what) {
        if (what < 0 || what > 1 && !here.has(what - 10)) {
            return NO_SUCH;
        }
        if (!seeker.gatherUnlit()) {
            return TOO_MANY;
        }
        if (!seeker.findSoonest()) {
            return NONE;
        }
        switch (what) {
            case 0:
                return seeker.soonestLatest;
            case 1:
                return seeker.soonestSum;
            default:
                return seeker.plannedQuarter(what - 10);
        }
    }

    public int plans() {
        return seeker.gatherUnlit() ? seeker.tallyPlans() : TOO_MANY;
    }

    public int shut() {
        return seeker.gatherUnlit() ? seeker.chimneysOf(seeker.shutSet()) : TOO_MANY;
    }

    public int most(int quarter, int what) {
        if (what < 0 || what > 1) {
            return NO_SUCH;
        }
        if (!isLightingQuarter(quarter)) {
            return BAD_NUMBER;
        }
        if (!seeker.gatherUnlit()) {
            return TOO_MANY;
        }
        int set = seeker.greatestSet(quarter);
        return what == 0 ? Integer.bitCount(set) : seeker.chimneysOf(set);
    }

    public int price(int c, int q) {
        if (!here.has(c)) {
            return NO_SUCH;
        }
        if (here.isLit(c)) {
            return NOT_NOW;
        }
        return here.mayBeLit(c, q) ? priceIn(c, q) : NONE;
    }

    public int cheapest(int c) {
        if (!here.has(c)) {
            return NO_SUCH;
        }
        if (here.isLit(c)) {
            return NOT_NOW;
        }
        int cheap = here.froms[c];
        int least = priceIn(c, cheap);
        for (int q = cheap + 1; q <= here.tos[c]; q++) {
            int asked = priceIn(c, q);
            if (asked < least) {
                least = asked;
                cheap = q;
            }
        }
        return cheap;
    }

    public int higher(int c) {
        if (!here.has(c)) {
            return NO_SUCH;
        }
        if (!here.isLit(c)) {
            return NOT_NOW;
        }
        otherWinds.followTold(here);
        otherPlumes.layLit();
        for (int rise = 0; rise <= MOST_RISE; rise++) {
            otherPlumes.layRaised(c, rise);
            if (!otherPlumes.touchesSome(c)) {
                return rise;
            }
        }
        return NONE;
    }

    public int thickness() {
        int thickest = 0;
        for (int c = 0; c < here.chimneys; c++) {
            for (int d = c + 1; d < here.chimneys; d++) {
                thickest = Math.max(thickest, plumes.closeness(c, d));
            }
        }
        return thickest + 1;
    }

    public int sheets(int row) {
        int refused = refusalOfSheets(row);
        if (refused != 0) {
            return refused;
        }
        days.seekDay(NONE);
        return days.fitting;
    }

    public int sheet(int row, int k, int c) {
        if (rowAt(row) == null || !here.has(c)) {
            return NO_SUCH;
        }
        int refused = refusalOfSheets(row);
        if (refused != 0) {
            return refused;
        }
        days.seekDay(k);
        return k >= 0 && k < days.fitting ? days.dayQuarter(c) : NOT_NOW;
    }

    public int sure(int row) {
        int refused = refusalOfSheets(row);
        if (refused != 0) {
            return refused;
        }
        days.seekDay(NONE);
        return days.fitting == 0 ? 0 : days.alwaysLit;
    }

    // ---- winds

    public int gusts(int seed) {
        otherWinds.drawFrom(seed);
        otherPlumes.layLit();
        return otherPlumes.touchingPairs();
    }

    public int calm(int n) {
        return n < 1 || n > CALM_SEEDS ? BAD_NUMBER : forecast.calmSeeds(n);
    }

    public int steady(int k) {
        if (k == NONE) {
            return forecast.calmSteadyWinds();
        }
        return k < 0 ? NONE : forecast.calmSteadyWind(k);
    }

    public int best(int c, int n) {
        int refused = refusalOfForecast(c, n);
        if (refused != 0) {
            return refused;
        }
        forecast.weigh(c, n);
        return forecast.bestQuarter;
    }

    public int breaks(int n) {
        return n < 1 || n > BREAKING_SEEDS ? BAD_NUMBER : forecast.firstBreakingSeed(n);
    }

    public int worth(int c, int n) {
        int refused = refusalOfForecast(c, n);
        if (refused != 0) {
            return refused;
        }
        forecast.weigh(c, n);
        return forecast.openDays - forecast.bestDays;
    }

    public int sky() {
        Arrays.fill(smokyCells, 0L);
        for (int c = 0; c < here.chimneys; c++) {
            for (int k = 0; k < here.smokeCounts[c]; k++) {
                markSmoky(c, k);
            }
        }
        int cells = 0;
        for (int h = 0; h < LEVELS; h++) {
            cells += Long.bitCount(smokyCells[h]);
        }
        return cells * 100 / (WIDTH * LEVELS);
    }

    // ---- rows of numbers, images

    public int numbers(int row, int sort, int n) {
        NumberRow it = rowAt(row);
        if (it == null || sort < 0 || sort > 3) {
            return NO_SUCH;
        }
        if (n < 0 || n > ROW_PLACES) {
            return BAD_NUMBER;
        }
        it.begin(sort, n);
        return 0;
    }

    public long write(int row, int i, long v) {
        NumberRow it = rowAt(row);
        if (it == null) {
            return NO_SUCH;
        }
        if (it.isMissing()) {
            return ROW_MISSING;
        }
        return it.hasPlace(i) ? it.put(i, v) : NO_PLACE;
    }

    public int copy(int row) {
        NumberRow it = rowAt(row);
        if (it == null) {
            return NO_SUCH;
        }
        if (it.isMissing()) {
            return ROW_MISSING;
        }
        if (it.size < here.chimneys) {
            return NO_PLACE;
        }
        for (int c = 0; c < here.chimneys; c++) {
            it.put(c, here.litIn[c]);
        }
        return here.chimneys;
    }

    public int image(int i) {
        if (i < 0 || i >= IMAGES) {
            return NO_SUCH;
        }
        if (images[i] == null) {
            images[i] = new Town();
        }
        images[i].takeFrom(here);
        return 0;
    }

    public int restore(int i) {
        if (i < 0 || i >= IMAGES) {
            return NO_SUCH;
        }
        if (images[i] == null) {
            return NOT_NOW;
        }
        settle(images[i]);
        return 0;
    }

    public int count(int what) {
        switch (what) {
            case 0:
                return here.chimneys;
            case 1:
                return here.litCount();
            case 2:
                return here.windCount;
            case 3:
                return here.layer;
            case 4:
                return here.thick;
            case 5:
                return here.fine;
            case 6:
                return dueFromAll();
            case 7:
                return taped;
            case 8:
                return here.lines;
            default:
                return NONE;
        }
    }

    // ---- helpers of the calls

    private static boolean isQuarter(int q) {
        return q >= 0 && q < QUARTERS;
    }

    private static boolean isLightingQuarter(int q) {
        return q >= 0 && q < LIGHTING_QUARTERS;
    }

    private static boolean isX(int x) {
        return x >= 0 && x < WIDTH;
    }

    /** A row of numbers, null if there is none such. */
    private NumberRow rowAt(int row) {
        return row >= 0 && row < ROWS ? rows[row] : null;
    }

    private boolean areTwo(int c, int d) {
        return here.has(c) && here.has(d) && c != d;
    }

    private void putOnTape(int word) {
        for (int shift = 24; shift >= 0; shift -= 8) {
            if (taped < MAX_BYTES) {
                tape[taped] = (byte) (word >>> shift);
                taped++;
            }
        }
    }

    private void settle(Town other) {
        here.takeFrom(other);
        toldWinds.followTold(here);
        plumes.layAll();
    }

    /** All pairs that touch into pairCodes, in their order: a code tells the quarter first. */
    private int gatherPairs() {
        int found = 0;
        for (int c = 0; c < here.chimneys; c++) {
            for (int d = c + 1; d < here.chimneys; d++) {
                long quarters = plumes.touchQuarters(c, d);
                if (quarters != 0 && found < MAX_PAIRS) {
                    insertPair(found, 1000 * Long.numberOfTrailingZeros(quarters) + 20 * c + d);
                    found++;
                }
            }
        }
        return found;
    }

    private void insertPair(int found, int code) {
        int at = found;
        while (at > 0 && pairCodes[at - 1] > code) {
            pairCodes[at] = pairCodes[at - 1];
            at--;
        }
        pairCodes[at] = code;
    }

    private int dueFrom(int c) {
        int quarters = 0;
        for (int d = 0; d < here.chimneys; d++) {
            if (d != c && here.litLater(c, d)) {
                quarters += Long.bitCount(plumes.touchQuarters(c, d));
            }
        }
        return quarters * here.fine;
    }

    private int dueFromAll() {
        int sum = 0;
        for (int c = 0; c < here.chimneys; c++) {
            sum += dueFrom(c);
        }
        return sum;
    }

    /** The price of an unlit chimney, asked of the town with it lit for a moment. */
    private int priceIn(int c, int q) {
        here.litIn[c] = q;
        int quarters = 0;
        for (int d = 0; d < here.chimneys; d++) {
            if (d != c) {
                quarters += Long.bitCount(plumes.touchQuarters(c, d));
            }
        }
        here.litIn[c] = NONE;
        return quarters * here.fine;
    }

    private void gatherSoot() {
        Arrays.fill(sootRow, 0);
        for (int c = 0; c < here.chimneys; c++) {
            if (here.isLit(c)) {
                plumes.addSoot(c, here.litIn[c], sootRow);
            }
        }
    }

    private void markSmoky(int c, int k) {
        int begin = here.litIn[c] + k;
        for (int age = 0; age < here.smokeOf(c, k); age++) {
            int x = plumes.xOfPuff(c, k, begin + age);
            int h = plumes.heightOfPuff(c, k, begin + age);
            if (isX(x) && h >= 0 && h < LEVELS) {
                smokyCells[h] |= 1L << x;
            }
        }
    }

    /** What refuses sheets in a row, 0 if nothing does; then the days are ready to be sought. */
    private int refusalOfSheets(int row) {
        NumberRow told = rowAt(row);
        if (told == null) {
            return NO_SUCH;
        }
        if (told.isMissing()) {
            return ROW_MISSING;
        }
        if (here.chimneys > MAX_SHEETED) {
            return TOO_MANY;
        }
        return days.takeSheets(told) ? 0 : BAD_NUMBER;
    }

    private int refusalOfForecast(int c, int n) {
        if (!here.has(c)) {
            return NO_SUCH;
        }
        if (here.isLit(c)) {
            return NOT_NOW;
        }
        return n < 1 || n > WEIGHED_SEEDS ? BAD_NUMBER : 0;
    }

    /** A town as told, and in which quarters its chimneys are lit. */
    private static final class Town {
        final int[] xs = new int[MAX_CHIMNEYS];
        final int[] heights = new int[MAX_CHIMNEYS];
        final int[] froms = new int[MAX_CHIMNEYS];
        final int[] tos = new int[MAX_CHIMNEYS];
        final int[] smokeCounts = new int[MAX_CHIMNEYS];
        final int[] smokes = new int[MAX_CHIMNEYS * MAX_SMOKES];
        final int[] litIn = new int[MAX_CHIMNEYS];
        final int[] windQuarters = new int[MAX_WINDS];
        final int[] windLows = new int[MAX_WINDS];
        final int[] windHighs = new int[MAX_WINDS];
        int chimneys;
        int windCount;
        int layer;
        int thick;
        int fine;
        int lines;

        Town() {
            begin();
        }

        void begin() {
            chimneys = 0;
            windCount = 0;
            layer = 6;
            thick = 2;
            fine = 5;
            lines = 0;
        }

        void takeFrom(Town other) {
            System.arraycopy(other.xs, 0, xs, 0, MAX_CHIMNEYS);
            System.arraycopy(other.heights, 0, heights, 0, MAX_CHIMNEYS);
            System.arraycopy(other.froms, 0, froms, 0, MAX_CHIMNEYS);
            System.arraycopy(other.tos, 0, tos, 0, MAX_CHIMNEYS);
            System.arraycopy(other.smokeCounts, 0, smokeCounts, 0, MAX_CHIMNEYS);
            System.arraycopy(other.smokes, 0, smokes, 0, MAX_CHIMNEYS * MAX_SMOKES);
            System.arraycopy(other.litIn, 0, litIn, 0, MAX_CHIMNEYS);
            System.arraycopy(other.windQuarters, 0, windQuarters, 0, MAX_WINDS);
            System.arraycopy(other.windLows, 0, windLows, 0, MAX_WINDS);
            System.arraycopy(other.windHighs, 0, windHighs, 0, MAX_WINDS);
            chimneys = other.chimneys;
            windCount = other.windCount;
            layer = other.layer;
            thick = other.thick;
            fine = other.fine;
            lines = other.lines;
        }

        void addChimney(int x, int height) {
            if (chimneys < MAX_CHIMNEYS) {
                xs[chimneys] = x;
                heights[chimneys] = height;
                smokeCounts[chimneys] = 0;
                litIn[chimneys] = NONE;
                chimneys++;
            }
        }

        /** One smoke more for the chimney told last. */
        void addSmoke(int thickness) {
            int c = chimneys - 1;
            if (c >= 0 && smokeCounts[c] < MAX_SMOKES) {
                smokes[c * MAX_SMOKES + smokeCounts[c]] = thickness;
                smokeCounts[c]++;
            }
        }

        /** The bounds of the chimney told last. */
        void bound(int from, int to) {
            if (chimneys > 0) {
                froms[chimneys - 1] = from;
                tos[chimneys - 1] = to;
            }
        }

        void addWind(int quarter, int low, int high) {
            if (windCount < MAX_WINDS) {
                windQuarters[windCount] = quarter;
                windLows[windCount] = low;
                windHighs[windCount] = high;
                windCount++;
            }
        }

        boolean has(int c) {
            return c >= 0 && c < chimneys;
        }

        boolean isLit(int c) {
            return has(c) && litIn[c] != NONE;
        }

        boolean mayBeLit(int c, int q) {
            return has(c) && q >= froms[c] && q <= tos[c];
        }

        /** The k-th smoke of a chimney, 0 if it has none such. */
        int smokeOf(int c, int k) {
            return has(c) && k >= 0 && k < smokeCounts[c] ? smokes[c * MAX_SMOKES + k] : 0;
        }

        /** Of two lit chimneys: whether the treaty puts the fault on c. */
        boolean litLater(int c, int d) {
            if (!isLit(c) || !isLit(d)) {
                return false;
            }
            return litIn[c] > litIn[d] || litIn[c] == litIn[d] && c > d;
        }

        int litCount() {
            int lit = 0;
            for (int c = 0; c < chimneys; c++) {
                if (isLit(c)) {
                    lit++;
                }
            }
            return lit;
        }
    }

    /** Reads a text into a draft; the draft is a town if there is no fault. */
    private static final class Reader {
        private static final int END = 0;
        private static final int WORD = 1;
        private static final int NUMBER = 2;
        private static final int SIGN = 3;
        private static final int STRANGE = 4;
        private static final int BLANK = 5;

        private static final int NO_TOKEN = 1;
        private static final int MISPLACED = 2;
        private static final int OUT_OF_BOUNDS = 3;
        private static final int ONE_TOO_MANY = 4;

        final Town draft = new Town();
        int fault = 0;
        int place = NONE;
        private byte[] text = new byte[0];
        private int length;
        private int next;
        private int start;
        private int sort;
        private int value;

        void readText(byte[] bytes, int n) {
            text = bytes;
            length = Math.min(n, bytes.length);
            next = 0;
            fault = 0;
            place = NONE;
            draft.begin();
            takeToken();
            for (int line = 0; line <= MAX_BYTES && sort != END && fault == 0; line++) {
                readLine();
            }
        }

        private void readLine() {
            if (spells("chimney")) {
                readChimney();
            } else if (spells("wind")) {
                readWind();
            } else if (spells("layer")) {
                draft.layer = onlyNumber(0, 20);
            } else if (spells("thick")) {
                draft.thick = onlyNumber(1, 9);
            } else if (spells("fine")) {
                draft.fine = onlyNumber(0, 99);
            } else {
                blame(MISPLACED);
            }
            if (sort == SIGN) {
                draft.lines++;
                takeToken();
            } else {
                blame(MISPLACED);
            }
        }

        private void readChimney() {
            if (draft.chimneys == MAX_CHIMNEYS) {
                blame(ONE_TOO_MANY);
                return;
            }
            int x = number(0, WIDTH - 1);
            int height = number(0, 12);
            draft.addChimney(x, height);
            draft.addSmoke(number(1, 9));
            takeToken();
            for (int k = 1; k <= MAX_SMOKES && sort == NUMBER && fault == 0; k++) {
                readFurtherSmoke(k);
            }
            int from = 0;
            if (spells("from")) {
                from = onlyNumber(0, LIGHTING_QUARTERS - 1);
            }
            int to = LIGHTING_QUARTERS - 1;
            if (spells("to")) {
                to = onlyNumber(from, LIGHTING_QUARTERS - 1);
            }
            draft.bound(from, to);
        }

        private void readFurtherSmoke(int k) {
            if (value < 1 || value > 9) {
                blame(OUT_OF_BOUNDS);
            } else if (k == MAX_SMOKES) {
                blame(ONE_TOO_MANY);
            } else {
                draft.addSmoke(value);
                takeToken();
            }
        }

        private void readWind() {
            if (draft.windCount == MAX_WINDS) {
                blame(ONE_TOO_MANY);
                return;
            }
            int quarter = number(0, QUARTERS - 1);
            int low = number(0, WIND_FORCES - 1);
            int high = number(0, WIND_FORCES - 1);
            draft.addWind(quarter, low, high);
            takeToken();
        }

        private int onlyNumber(int least, int greatest) {
            int told = number(least, greatest);
            takeToken();
            return told;
        }

        /** The next token, which must be a number within bounds. */
        private int number(int least, int greatest) {
            takeToken();
            if (sort != NUMBER) {
                blame(MISPLACED);
            } else if (value < least || value > greatest) {
                blame(OUT_OF_BOUNDS);
            }
            return value;
        }

        /** The first fault alone is kept: reading goes on for a moment behind it. */
        private void blame(int kind) {
            if (fault == 0) {
                fault = sort == STRANGE ? NO_TOKEN : kind;
                place = start;
            }
        }

        private boolean spells(String word) {
            if (sort != WORD || next - start != word.length()) {
                return false;
            }
            for (int i = 0; i < word.length(); i++) {
                if (byteAt(start + i) != word.charAt(i)) {
                    return false;
                }
            }
            return true;
        }

        private int byteAt(int i) {
            return i >= 0 && i < length ? text[i] & 255 : NONE;
        }

        private void takeToken() {
            while (next < length && sortOf(byteAt(next)) == BLANK) {
                next++;
            }
            start = next;
            value = 0;
            sort = sortOf(byteAt(next));
            if (sort == SIGN || sort == STRANGE) {
                next++;
                return;
            }
            while (next < length && sortOf(byteAt(next)) == sort) {
                value = sort == NUMBER ? 10 * value + byteAt(next) - '0' : 0;
                next++;
            }
            if (sort == NUMBER && next - start > 3) {
                sort = STRANGE;
            }
        }

        /** What a sign is, or what sort of token it begins. */
        private static int sortOf(int sign) {
            if (sign >= 'a' && sign <= 'z') {
                return WORD;
            }
            if (sign >= '0' && sign <= '9') {
                return NUMBER;
            }
            switch (sign) {
                case NONE:
                    return END;
                case 10:
                case 32:
                    return BLANK;
                case ';':
                    return SIGN;
                default:
                    return STRANGE;
            }
        }
    }

    /** Low and high winds of all quarters, 0 to 6 each. */
    private static final class Winds {
        final int[] lows = new int[QUARTERS];
        final int[] highs = new int[QUARTERS];

        void followTold(Town town) {
            for (int q = 0; q < QUARTERS; q++) {
                int told = latestTold(town, q);
                lows[q] = told == NONE ? STILL : town.windLows[told];
                highs[q] = told == NONE ? STILL : town.windHighs[told];
            }
        }

        private static int latestTold(Town town, int q) {
            int latest = NONE;
            int since = NONE;
            for (int i = 0; i < town.windCount; i++) {
                int begins = town.windQuarters[i];
                if (begins <= q && begins >= since) {
                    latest = i;
                    since = begins;
                }
            }
            return latest;
        }

        void drawFrom(int seed) {
            int x = seed;
            for (int q = 0; q < QUARTERS; q++) {
                x = 1103515245 * x + 12345;
                lows[q] = (x >>> 16) % WIND_FORCES;
                x = 1103515245 * x + 12345;
                highs[q] = (x >>> 16) % WIND_FORCES;
            }
        }

        void blowSteadily(int low, int high) {
            Arrays.fill(lows, low);
            Arrays.fill(highs, high);
        }
    }

    /**
     * Where puffs go by some winds. A puff's way depends on its chimney and on the quarter
     * in which it begins alone, so it is kept once for all lightings that give it.
     */
    private static final class Plumes {
        private static final int BEGINNINGS = LIGHTING_QUARTERS + MAX_SMOKES - 1;
        private static final int AGES = 9;

        private final Town town;
        private final Winds winds;
        private final int[] heights = new int[MAX_CHIMNEYS];
        private final int[] ways = new int[MAX_CHIMNEYS * BEGINNINGS * AGES];

        Plumes(Town town, Winds winds) {
            this.town = town;
            this.winds = winds;
        }

        void layAll() {
            for (int c = 0; c < town.chimneys; c++) {
                layWhole(c);
            }
        }

        /** All ways that some lighting of a chimney gives. */
        void layWhole(int c) {
            if (town.has(c)) {
                layWays(c, town.heights[c], town.froms[c], town.tos[c] + town.smokeCounts[c]);
            }
        }

        void layLit() {
            for (int c = 0; c < town.chimneys; c++) {
                if (town.isLit(c)) {
                    layRaised(c, 0);
                }
            }
        }

        /** The ways of a lit chimney, as if it were higher. */
        void layRaised(int c, int rise) {
            if (town.isLit(c)) {
                int begin = town.litIn[c];
                layWays(c, town.heights[c] + rise, begin, begin + town.smokeCounts[c]);
            }
        }

        private void layWays(int c, int height, int first, int end) {
            heights[c] = height;
            for (int begin = Math.max(first, 0); begin < Math.min(end, BEGINNINGS); begin++) {
                layWay(c, begin);
            }
        }

        private void layWay(int c, int begin) {
            int at = (c * BEGINNINGS + begin) * AGES;
            int x = town.xs[c];
            int h = heights[c];
            ways[at] = x;
            for (int age = 1; age < AGES; age++) {
                if (x != NONE) {
                    int quarter = begin + age;
                    x += (h < town.layer ? winds.lows[quarter] : winds.highs[quarter]) - STILL;
                    h++;
                    if (!isX(x) || h >= LEVELS) {
                        x = NONE;
                    }
                }
                ways[at + age] = x;
            }
        }

        /** X in a quarter of what began in another one, as thick as can be; NONE: out of all cells. */
        private int xOnWay(int c, int begin, int quarter) {
            int age = quarter - begin;
            if (c < 0 || c >= town.chimneys || begin < 0 || begin >= BEGINNINGS || age < 0 || age >= AGES) {
                return NONE;
            }
            return ways[(c * BEGINNINGS + begin) * AGES + age];
        }

        /** How thick a lit chimney's puff is, the cells aside; 0: it isn't there. */
        int thicknessOfPuff(int c, int k, int quarter) {
            if (!town.isLit(c)) {
                return 0;
            }
            int age = quarter - town.litIn[c] - k;
            return age < 0 ? 0 : Math.max(0, town.smokeOf(c, k) - age);
        }

        int xOfPuff(int c, int k, int quarter) {
            if (thicknessOfPuff(c, k, quarter) == 0) {
                return NONE;
            }
            return xOnWay(c, town.litIn[c] + k, quarter);
        }

        /** The height of a puff that is there. */
        int heightOfPuff(int c, int k, int quarter) {
            return town.isLit(c) ? heights[c] + quarter - town.litIn[c] - k : NONE;
        }

        void addSoot(int c, int litIn, int[] row) {
            for (int k = 0; k < MAX_SMOKES; k++) {
                int thickness = town.smokeOf(c, k);
                for (int age = 0; age < thickness; age++) {
                    int x = xOnWay(c, litIn + k, litIn + k + age);
                    if (x >= 0 && x < row.length) {
                        row[x] += thickness - age;
                    }
                }
            }
        }

        /** The first quarter in which two ways of one height share a cell: they go on as one then. */
        int meeting(int c, int beginC, int d, int beginD) {
            int last = Math.min(beginC, beginD) + AGES;
            for (int quarter = Math.max(beginC, beginD); quarter < last; quarter++) {
                int x = xOnWay(c, beginC, quarter);
                if (x == NONE) {
                    return NONE;
                }
                if (x == xOnWay(d, beginD, quarter)) {
                    return quarter;
                }
            }
            return NONE;
        }

        /** When smoke of d must begin to be as high as what began at c then: both rise alike. */
        int levelBeginning(int c, int beginC, int d) {
            return beginC + heights[d] - heights[c];
        }

        /** The first quarter in which the k-th puff of lit c shares a cell with one of lit d. */
        private int meetingOfPuff(int c, int k, int d) {
            int beginC = town.litIn[c] + k;
            int beginD = levelBeginning(c, beginC, d);
            return town.smokeOf(d, beginD - town.litIn[d]) == 0 ? NONE : meeting(c, beginC, d, beginD);
        }

        /** The quarter in which the first of two puffs that meet so is thinned away. */
        private int partingOfPuff(int c, int k, int d) {
            int beginC = town.litIn[c] + k;
            int beginD = levelBeginning(c, beginC, d);
            return Math.min(beginC + town.smokeOf(c, k), beginD + town.smokeOf(d, beginD - town.litIn[d]));
        }

        /** The quarters in which two lit chimneys touch, as bits. */
        long touchQuarters(int c, int d) {
            if (!town.isLit(c) || !town.isLit(d)) {
                return 0;
            }
            long quarters = 0;
            for (int k = 0; k < town.smokeCounts[c]; k++) {
                int meet = meetingOfPuff(c, k, d);
                if (meet != NONE) {
                    int last = partingOfPuff(c, k, d) - town.thick;
                    quarters |= quartersTogether(c, town.litIn[c] + k, meet, last);
                }
            }
            return quarters;
        }

        private long quartersTogether(int c, int begin, int first, int last) {
            long quarters = 0;
            for (int quarter = first; quarter <= last && xOnWay(c, begin, quarter) != NONE; quarter++) {
                quarters |= 1L << quarter;
            }
            return quarters;
        }

        /** Of puffs of two lit chimneys in one cell: how thick the thinner one is at most, 0 if none are. */
        int closeness(int c, int d) {
            if (!town.isLit(c) || !town.isLit(d)) {
                return 0;
            }
            int closest = 0;
            for (int k = 0; k < town.smokeCounts[c]; k++) {
                int meet = meetingOfPuff(c, k, d);
                if (meet != NONE) {
                    closest = Math.max(closest, partingOfPuff(c, k, d) - meet);
                }
            }
            return closest;
        }

        boolean touchesSome(int c) {
            for (int d = 0; d < town.chimneys; d++) {
                if (d != c && closeness(c, d) >= town.thick) {
                    return true;
                }
            }
            return false;
        }

        boolean someTouch() {
            for (int c = 0; c < town.chimneys; c++) {
                for (int d = c + 1; d < town.chimneys; d++) {
                    if (closeness(c, d) >= town.thick) {
                        return true;
                    }
                }
            }
            return false;
        }

        int touchingPairs() {
            int found = 0;
            for (int c = 0; c < town.chimneys; c++) {
                for (int d = c + 1; d < town.chimneys; d++) {
                    if (closeness(c, d) >= town.thick) {
                        found++;
                    }
                }
            }
            return found;
        }

        /** Quarters of c that give a puff on a way, thick enough in the meeting with one gone then. */
        int lightingsThatTouch(int c, int begin, int meet, int gone) {
            int quarters = 0;
            if (gone - meet < town.thick) {
                return 0;
            }
            for (int k = 0; k < town.smokeCounts[c]; k++) {
                int q = begin - k;
                if (town.mayBeLit(c, q) && begin + town.smokeOf(c, k) - meet >= town.thick) {
                    quarters |= 1 << q;
                }
            }
            return quarters;
        }

        private int clashesWithLit(int c, int d) {
            int quarters = 0;
            for (int l = 0; l < town.smokeCounts[d]; l++) {
                int beginD = town.litIn[d] + l;
                int beginC = levelBeginning(d, beginD, c);
                int meet = meeting(c, beginC, d, beginD);
                if (meet != NONE) {
                    quarters |= lightingsThatTouch(c, beginC, meet, beginD + town.smokeOf(d, l));
                }
            }
            return quarters;
        }

        int freeQuarters(int c) {
            if (!town.has(c)) {
                return 0;
            }
            int quarters = (2 << town.tos[c]) - (1 << town.froms[c]);
            for (int d = 0; d < town.chimneys; d++) {
                if (d != c && town.isLit(d)) {
                    quarters &= ~clashesWithLit(c, d);
                }
            }
            return quarters;
        }
    }

    /** Lightings in a row, done or tried. */
    private static final class Judge {
        private final Town town;
        private final Plumes plumes;
        private final int[] litBefore = new int[MAX_CHIMNEYS];
        int place = NONE;
        int why;
        int litThen;

        Judge(Town town, Plumes plumes) {
            this.town = town;
            this.plumes = plumes;
        }

        /** Lights till one can't be: how many; what is lit stays so, or is put back as it was. */
        int lightRow(NumberRow row, boolean stays) {
            System.arraycopy(town.litIn, 0, litBefore, 0, MAX_CHIMNEYS);
            place = NONE;
            why = 0;
            int done = 0;
            while (done < row.size && why == 0) {
                long told = row.at(done);
                why = obstacle(told);
                if (why == 0) {
                    town.litIn[(int) (told >> 5)] = (int) (told & 31);
                    done++;
                } else {
                    place = done;
                }
            }
            litThen = town.litCount();
            if (!stays) {
                System.arraycopy(litBefore, 0, town.litIn, 0, MAX_CHIMNEYS);
            }
            return done;
        }

        private int obstacle(long told) {
            long chimney = told >> 5;
            int q = (int) (told & 31);
            if (chimney < 0 || chimney >= town.chimneys || !isLightingQuarter(q)) {
                return 1;
            }
            int c = (int) chimney;
            if (town.isLit(c)) {
                return 2;
            }
            if (!town.mayBeLit(c, q)) {
                return 3;
            }
            return (plumes.freeQuarters(c) >> q & 1) == 0 ? 4 : 0;
        }
    }

    /** Plans for the chimneys that aren't lit, its members: sets of them are bits by their order. */
    private static final class Seeker {
        private final Town town;
        private final Plumes plumes;
        private final int[] who = new int[MAX_SOUGHT];
        private int members;
        private final int[] clashes = new int[MAX_SOUGHT * MAX_SOUGHT * LIGHTING_QUARTERS];
        private final int[] open = new int[(MAX_SOUGHT + 1) * MAX_SOUGHT];
        private final int[] chosen = new int[MAX_SOUGHT];
        private final int[] soonest = new int[MAX_SOUGHT];
        int soonestLatest;
        int soonestSum;
        private int tally;

        Seeker(Town town, Plumes plumes) {
            this.town = town;
            this.plumes = plumes;
        }

        /** Makes the chimneys that aren't lit members; false if they are too many. */
        boolean gatherUnlit() {
            members = 0;
            for (int c = 0; c < town.chimneys; c++) {
                if (!town.isLit(c)) {
                    if (members == MAX_SOUGHT) {
                        return false;
                    }
                    who[members] = c;
                    members++;
                }
            }
            layClashes();
            return true;
        }

        private void layClashes() {
            Arrays.fill(clashes, 0);
            for (int i = 0; i < members; i++) {
                open[i] = plumes.freeQuarters(who[i]);
                for (int j = i + 1; j < members; j++) {
                    layClashesOf(i, j);
                }
            }
        }

        private void layClashesOf(int i, int j) {
            int c = who[j];
            int d = who[i];
            int end = town.tos[d] + town.smokeCounts[d];
            for (int beginD = town.froms[d]; beginD < end; beginD++) {
                int beginC = plumes.levelBeginning(d, beginD, c);
                int meet = plumes.meeting(c, beginC, d, beginD);
                for (int l = 0; l < town.smokeCounts[d] && meet != NONE; l++) {
                    int q = beginD - l;
                    if (town.mayBeLit(d, q)) {
                        clashes[clashPlace(i, j, q)] |=
                            plumes.lightingsThatTouch(c, beginC, meet, beginD + town.smokeOf(d, l));
                    }
                }
            }
        }

        private static int clashPlace(int i, int j, int q) {
            return (i * MAX_SOUGHT + j) * LIGHTING_QUARTERS + q;
        }

        int chimneysOf(int set) {
            int bits = 0;
            for (int i = 0; i < members; i++) {
                if ((set >> i & 1) != 0) {
                    bits |= 1 << who[i];
                }
            }
            return bits;
        }

        /** The least set that has no plan, 0 if there is none: small sets fail soonest. */
        int shutSet() {
            for (int size = 1; size <= members; size++) {
                for (int set = 1; set < 1 << members; set++) {
                    if (Integer.bitCount(set) == size && !canLight(0, set)) {
                        return set;
                    }
                }
            }
            return 0;
        }

        int greatestSet(int quarter) {
            for (int i = 0; i < members; i++) {
                open[i] &= (2 << quarter) - 1;
            }
            for (int size = members; size > 0; size--) {
                for (int set = 1; set < 1 << members; set++) {
                    if (Integer.bitCount(set) == size && canLight(0, set)) {
                        return set;
                    }
                }
            }
            return 0;
        }

        private static int firstOf(int set) {
            return Math.min(Integer.numberOfTrailingZeros(set), MAX_SOUGHT - 1);
        }

        private boolean isOpen(int depth, int i, int q) {
            return (open[depth * MAX_SOUGHT + i] >> q & 1) != 0;
        }

        /** What stays open for the rest one level deeper, if i is lit in q; false if nothing does for one. */
        private boolean narrow(int depth, int i, int q, int rest) {
            for (int j = i + 1; j < members; j++) {
                if ((rest >> j & 1) != 0) {
                    int left = open[depth * MAX_SOUGHT + j] & ~clashes[clashPlace(i, j, q)];
                    if (left == 0) {
                        return false;
                    }
                    open[(depth + 1) * MAX_SOUGHT + j] = left;
                }
            }
            return true;
        }

        private boolean canLight(int depth, int set) {
            if (set == 0 || depth >= MAX_SOUGHT) {
                return true;
            }
            int i = firstOf(set);
            int rest = set & set - 1;
            for (int q = 0; q < LIGHTING_QUARTERS; q++) {
                if (isOpen(depth, i, q) && narrow(depth, i, q, rest) && canLight(depth + 1, rest)) {
                    return true;
                }
            }
            return false;
        }

        int tallyPlans() {
            if (members == 0) {
                return 1;
            }
            tally = 0;
            if (shutSet() == 0) {
                addPlans(0, (1 << members) - 1);
            }
            return Math.min(tally, MAX_PLANS);
        }

        private void addPlans(int depth, int set) {
            if (set == 0 || depth >= MAX_SOUGHT) {
                return;
            }
            int i = firstOf(set);
            int rest = set & set - 1;
            if (rest == 0) {
                tally += Integer.bitCount(open[depth * MAX_SOUGHT + i]);
                return;
            }
            for (int q = 0; q < LIGHTING_QUARTERS && tally < MAX_PLANS; q++) {
                if (isOpen(depth, i, q) && narrow(depth, i, q, rest)) {
                    addPlans(depth + 1, rest);
                }
            }
        }

        boolean findSoonest() {
            if (shutSet() != 0) {
                return false;
            }
            soonestLatest = members == 0 ? 0 : LIGHTING_QUARTERS;
            soonestSum = 0;
            seekSoonest(0, (1 << members) - 1, 0, 0);
            return true;
        }

        /** Goes on in the order of quarters, so that of like plans the first stays. */
        private void seekSoonest(int depth, int set, int latest, int sum) {
            if (depth >= MAX_SOUGHT || set == 0) {
                keepIfSooner(latest, sum);
                return;
            }
            int i = firstOf(set);
            int rest = set & set - 1;
            for (int q = 0; q < LIGHTING_QUARTERS; q++) {
                if (isOpen(depth, i, q) && narrow(depth, i, q, rest)
                    && maySooner(depth + 1, rest, Math.max(latest, q), sum + q)) {
                    chosen[i] = q;
                    seekSoonest(depth + 1, rest, Math.max(latest, q), sum + q);
                }
            }
        }

        private boolean isSooner(int latest, int sum) {
            return latest < soonestLatest || latest == soonestLatest && sum < soonestSum;
        }

        /** Whether a sooner plan could come of this, each of the rest being lit as soon as it may. */
        private boolean maySooner(int depth, int rest, int latest, int sum) {
            for (int j = 0; j < members; j++) {
                if ((rest >> j & 1) != 0) {
                    int q = Integer.numberOfTrailingZeros(open[depth * MAX_SOUGHT + j]);
                    latest = Math.max(latest, q);
                    sum += q;
                }
            }
            return isSooner(latest, sum);
        }

        private void keepIfSooner(int latest, int sum) {
            if (isSooner(latest, sum)) {
                soonestLatest = latest;
                soonestSum = sum;
                System.arraycopy(chosen, 0, soonest, 0, MAX_SOUGHT);
            }
        }

        /** The quarter of a chimney in the soonest plan, of a lit one its own. */
        int plannedQuarter(int c) {
            for (int i = 0; i < members; i++) {
                if (who[i] == c) {
                    return soonest[i];
                }
            }
            return town.has(c) ? town.litIn[c] : NONE;
        }
    }

    /**
     * Days that fit sheets. An option of a chimney is 0 (not lit) or its quarter and 1; where there
     * are less than three chimneys, the others have option 0 alone, which changes no order.
     */
    private static final class Days {
        private static final int OPTIONS = LIGHTING_QUARTERS + 1;

        private final Town town;
        private final Plumes plumes;
        private int told;
        private final int[] toldX = new int[MAX_TOLD];
        private final long[] toldSoot = new long[MAX_TOLD];
        private final int[] row = new int[WIDTH];
        private final int[] shares = new int[MAX_SHEETED * OPTIONS * MAX_TOLD];
        private final int[] options = new int[MAX_SHEETED];
        private final int[] amounts = new int[MAX_TOLD * OPTIONS];
        private final int[] optionsByAmount = new int[MAX_TOLD * OPTIONS];
        private final int[] amountCounts = new int[MAX_TOLD];
        private final int[] day = new int[MAX_SHEETED];
        int fitting;
        int alwaysLit;

        Days(Town town, Plumes plumes) {
            this.town = town;
            this.plumes = plumes;
        }

        /** Takes the sheets of a row; false if a number can't be. */
        boolean takeSheets(NumberRow sheets) {
            if (sheets.size % 2 != 0 || sheets.size / 2 > MAX_TOLD) {
                return false;
            }
            told = 0;
            for (int i = 0; i < sheets.size / 2; i++) {
                long x = sheets.at(2 * i);
                long soot = sheets.at(2 * i + 1);
                if (x < 0 || x >= WIDTH || soot < 0) {
                    return false;
                }
                toldX[i] = (int) x;
                toldSoot[i] = soot;
                told++;
            }
            for (int c = 0; c < MAX_SHEETED; c++) {
                layShares(c);
            }
            layAmounts();
            return true;
        }

        private static int sharePlace(int c, int option, int i) {
            return (c * OPTIONS + option) * MAX_TOLD + i;
        }

        /** What soot a chimney gives to the places told, by its options. */
        private void layShares(int c) {
            options[c] = 1;
            for (int option = 0; option < OPTIONS; option++) {
                Arrays.fill(row, 0);
                if (option > 0 && town.mayBeLit(c, option - 1)) {
                    options[c] |= 1 << option;
                    plumes.addSoot(c, option - 1, row);
                }
                for (int i = 0; i < told; i++) {
                    shares[sharePlace(c, option, i)] = row[toldX[i]];
                }
            }
        }

        /** For each place told the last chimney's amounts, and by which options it gives them. */
        private void layAmounts() {
            int last = MAX_SHEETED - 1;
            for (int i = 0; i < told; i++) {
                amountCounts[i] = 0;
                for (int option = 0; option < OPTIONS; option++) {
                    if ((options[last] >> option & 1) != 0) {
                        addAmount(i, shares[sharePlace(last, option, i)], option);
                    }
                }
            }
        }

        private void addAmount(int i, int amount, int option) {
            int at = i * OPTIONS;
            int end = at + amountCounts[i];
            while (at < end && amounts[at] != amount) {
                at++;
            }
            if (at == end) {
                amounts[at] = amount;
                optionsByAmount[at] = 0;
                amountCounts[i]++;
            }
            optionsByAmount[at] |= 1 << option;
        }

        private int optionsThatGive(int i, long amount) {
            for (int at = i * OPTIONS; at < i * OPTIONS + amountCounts[i]; at++) {
                if (amounts[at] == amount) {
                    return optionsByAmount[at];
                }
            }
            return 0;
        }

        /** The last chimney's options that fit those of the others, as bits. */
        private int fittingOptions(int first, int second) {
            int fit = options[MAX_SHEETED - 1];
            for (int i = 0; i < told && fit != 0; i++) {
                long left = toldSoot[i] - shares[sharePlace(0, first, i)] - shares[sharePlace(1, second, i)];
                fit &= optionsThatGive(i, left);
            }
            return fit;
        }

        /** Goes through all days that fit: how many, who is lit on all of them, and the k-th. */
        void seekDay(int k) {
            fitting = 0;
            alwaysLit = (1 << MAX_SHEETED) - 1;
            for (int first = 0; first < OPTIONS; first++) {
                for (int second = 0; second < OPTIONS; second++) {
                    boolean both = (options[0] >> first & 1) != 0 && (options[1] >> second & 1) != 0;
                    int fit = both ? fittingOptions(first, second) : 0;
                    if (fit != 0) {
                        addDays(first, second, fit, k);
                    }
                }
            }
        }

        private void addDays(int first, int second, int fit, int k) {
            for (int last = 0; last < OPTIONS; last++) {
                if ((fit >> last & 1) != 0) {
                    if (fitting == k) {
                        day[0] = first;
                        day[1] = second;
                        day[2] = last;
                    }
                    fitting++;
                }
            }
            alwaysLit &= (first == 0 ? 0 : 1) | (second == 0 ? 0 : 2) | ((fit & 1) != 0 ? 0 : 4);
        }

        int dayQuarter(int c) {
            return c >= 0 && c < MAX_SHEETED ? day[c] - 1 : NONE;
        }
    }

    /** What winds that weren't told would do. */
    private static final class Forecast {
        private final Town town;
        private final Winds winds;
        private final Plumes plumes;
        private final int[] goodDays = new int[LIGHTING_QUARTERS];
        int bestQuarter;
        int bestDays;
        int openDays;

        Forecast(Town town, Winds winds, Plumes plumes) {
            this.town = town;
            this.winds = winds;
            this.plumes = plumes;
        }

        private boolean isCalm(int seed) {
            winds.drawFrom(seed);
            plumes.layLit();
            return !plumes.someTouch();
        }

        int calmSeeds(int n) {
            int found = 0;
            for (int seed = 1; seed <= n; seed++) {
                if (isCalm(seed)) {
                    found++;
                }
            }
            return found;
        }

        int firstBreakingSeed(int n) {
            for (int seed = 1; seed <= n; seed++) {
                if (!isCalm(seed)) {
                    return seed;
                }
            }
            return NONE;
        }

        private boolean isSteadyCalm(int code) {
            winds.blowSteadily(code / WIND_FORCES, code % WIND_FORCES);
            plumes.layLit();
            return !plumes.someTouch();
        }

        int calmSteadyWinds() {
            int found = 0;
            for (int code = 0; code < WIND_FORCES * WIND_FORCES; code++) {
                if (isSteadyCalm(code)) {
                    found++;
                }
            }
            return found;
        }

        int calmSteadyWind(int k) {
            int found = 0;
            for (int code = 0; code < WIND_FORCES * WIND_FORCES; code++) {
                if (isSteadyCalm(code)) {
                    if (found == k) {
                        return code;
                    }
                    found++;
                }
            }
            return NONE;
        }

        /** On how many of the days a chimney that isn't lit touches none, by its quarters. */
        void weigh(int c, int n) {
            Arrays.fill(goodDays, 0);
            openDays = 0;
            for (int seed = 1; seed <= n; seed++) {
                winds.drawFrom(seed);
                plumes.layLit();
                plumes.layWhole(c);
                addGoodDay(plumes.freeQuarters(c));
            }
            bestQuarter = town.has(c) ? town.froms[c] : 0;
            for (int q = bestQuarter + 1; q < LIGHTING_QUARTERS; q++) {
                if (goodDays[q] > goodDays[bestQuarter]) {
                    bestQuarter = q;
                }
            }
            bestDays = goodDays[bestQuarter];
        }

        private void addGoodDay(int quarters) {
            if (quarters != 0) {
                openDays++;
            }
            for (int q = 0; q < LIGHTING_QUARTERS; q++) {
                goodDays[q] += quarters >> q & 1;
            }
        }
    }

    /** A row of numbers of one sort, or missing. */
    private static final class NumberRow {
        private final long[] values = new long[ROW_PLACES];
        private int sort;
        int size = NONE;

        boolean isMissing() {
            return size == NONE;
        }

        void begin(int newSort, int newSize) {
            sort = newSort;
            size = newSize;
            Arrays.fill(values, 0L);
        }

        boolean hasPlace(int i) {
            return i >= 0 && i < size;
        }

        long at(int i) {
            return hasPlace(i) ? values[i] : 0;
        }

        long put(int i, long v) {
            if (!hasPlace(i)) {
                return 0;
            }
            values[i] = cut(v);
            return values[i];
        }

        private long cut(long v) {
            switch (sort) {
                case 0:
                    return (byte) v;
                case 1:
                    return (short) v;
                case 2:
                    return (int) v;
                default:
                    return v;
            }
        }
    }
}
