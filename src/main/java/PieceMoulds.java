import java.util.Arrays;

/** A founder's bench for bronze cast in clay; ../shared/DOC.md tells what each call does and answers. */
public final class PieceMoulds {
    public static final int NONE = -1;

    private static final int REFUSED_NUMBER = -1;
    private static final int REFUSED_ABSENT = -2;
    private static final int REFUSED_STATE = -3;
    private static final int REFUSED_ROOM = -5;
    private static final int REFUSED_TEXT_OR_NONE = -6;

    private static final int LEAST_SIDE = 2;
    private static final int MOST_SIDE = 12;
    private static final int FIRST_SIDE = 8;
    private static final int MOST_CELLS = MOST_SIDE * MOST_SIDE;

    private static final int OPEN = 0;
    private static final int CORE = 1;
    private static final int SPACER = 2;
    private static final int GATE = 3;
    private static final int VENT = 4;
    private static final int CLAY = 10;
    private static final int MOST_PIECES = 8;

    private static final int SOLID = 0;
    private static final int CAST = 1;
    private static final int DRY = 2;
    private static final int AIR = 3;
    private static final int REPAIRED = 5;

    private static final int[] WAY_X = {1, 0, -1, 0};
    private static final int[] WAY_Y = {0, 1, 0, -1};
    private static final int WAYS = 4;

    private static final int WHOLE = 1000;
    private static final int MOST_LOTS = 6;
    private static final int MOST_UNITS = 40;
    private static final int MOST_PRICE = 1000;

    private static final int MOST_TAPE = 300;
    private static final int FED_BYTES = 20;
    private static final int BLANK = 32;
    private static final int MOST_RULES = 20;
    private static final int MOST_NUMBER = 1000;

    private static final int TIN_RULE = 0;
    private static final int LEAD_RULE = 1;
    private static final int COPPER_RULE = 2;
    private static final int WALL_RULE = 3;
    private static final int AIR_RULE = 4;
    private static final int DRY_RULE = 5;
    private static final int STUCK_RULE = 6;
    private static final int PIECES_RULE = 7;
    private static final int SPACERS_RULE = 8;
    private static final int RULE_KINDS = 9;

    private static final int MOST_VESSELS = 40;
    private static final int MARKS = 8;
    private static final int MOST_MARKS = 99999999;
    private static final int WORKSHOPS = 8;
    private static final int MOST_TOLD = 150;
    private static final int LAST_YEAR = 3000;
    private static final int NO_LIKENESS = -1000;

    private final Grid grid;
    private final Casting casting;
    private final Stripping stripping;
    private final Lots lots;
    private final Mixer mixer;
    private final Batch batch;
    private final Tape tape;
    private final RuleReader reader;
    private final Judge judge;
    private final Vessels vessels;
    private RuleBook kept;
    private RuleBook draft;
    private int faultPlace;
    private int refusal;

    public PieceMoulds() {
        Grid newGrid = new Grid();
        Casting newCasting = new Casting(newGrid);
        Stripping newStripping = new Stripping(newGrid);
        Lots newLots = new Lots();
        Batch newBatch = new Batch(newLots);
        Tape newTape = new Tape();
        grid = newGrid;
        casting = newCasting;
        stripping = newStripping;
        lots = newLots;
        mixer = new Mixer(newLots);
        batch = newBatch;
        tape = newTape;
        reader = new RuleReader(newTape);
        judge = new Judge(newCasting, newStripping, newBatch);
        vessels = new Vessels();
        kept = new RuleBook();
        draft = new RuleBook();
        faultPlace = NONE;
        refusal = 0;
    }

    public int size(int w, int h) {
        if (w < LEAST_SIDE || w > MOST_SIDE || h < LEAST_SIDE || h > MOST_SIDE) {
            return answered(REFUSED_NUMBER);
        }
        grid.resize(w, h);
        return answered(0);
    }

    public int draw(int x, int y, int u, int v, int sort) {
        if (!isSort(sort) || x > u || y > v) {
            return answered(REFUSED_NUMBER);
        }
        if (!grid.has(x, y) || !grid.has(u, v)) {
            return answered(REFUSED_ABSENT);
        }
        return answered(grid.fill(x, y, u, v, sort));
    }

    public int cell(int x, int y, int what) {
        if (!grid.has(x, y)) {
            return NONE;
        }
        switch (what) {
            case 0:
                return grid.sortAt(x, y);
            case 1:
                casting.refresh();
                return casting.fateAt(x, y);
            default:
                return NONE;
        }
    }

    public int repair(int x, int y) {
        if (!grid.has(x, y)) {
            return answered(REFUSED_ABSENT);
        }
        casting.refresh();
        if (!casting.canMend(x, y)) {
            return answered(REFUSED_STATE);
        }
        return answered(casting.mend(x, y));
    }

    public int wall(int x, int y) {
        casting.refresh();
        if (x == NONE && y == NONE) {
            return casting.leastWall();
        }
        return grid.has(x, y) ? casting.wallAt(x, y) : NONE;
    }

    public int many(int what) {
        casting.refresh();
        switch (what) {
            case 0:
                return casting.howMany(CAST) + casting.howMany(REPAIRED);
            case 1:
                return casting.howMany(DRY);
            case 2:
                return casting.howMany(AIR);
            case 3:
                return grid.howMany(CORE, CORE);
            case 4:
                return grid.howMany(SPACER, SPACER);
            case 5:
                return casting.howMany(REPAIRED);
            case 6:
                return grid.howMany(CLAY, CLAY + MOST_PIECES - 1);
            default:
                return NONE;
        }
    }

    public int off(int i, int what) {
        stripping.refresh();
        if (i == NONE) {
            return howManyPieces(what);
        }
        switch (what) {
            case 0:
                return stripping.pieceAt(i);
            case 1:
                return stripping.wayAt(i);
            default:
                return NONE;
        }
    }

    public int lot(int tin, int lead, int price, int units) {
        if (!isWithin(tin, WHOLE) || !isWithin(lead, WHOLE) || tin + lead > WHOLE
                || !isWithin(price, MOST_PRICE) || !isWithin(units, MOST_UNITS)) {
            return answered(REFUSED_NUMBER);
        }
        if (lots.isFull()) {
            return answered(REFUSED_ROOM);
        }
        return answered(lots.add(tin, lead, price, units));
    }

    public int mix(int n, int a, int b, int c) {
        if (n < 1 || n > MOST_UNITS || a > b || !isWithin(a, WHOLE)
                || !isWithin(b, WHOLE) || !isWithin(c, WHOLE)) {
            return answered(REFUSED_NUMBER);
        }
        if (!mixer.find(n, a, b, c)) {
            return answered(REFUSED_TEXT_OR_NONE);
        }
        for (int i = 0; i < MOST_LOTS; i++) {
            batch.put(i, mixer.unitsOf(i));
        }
        return answered(mixer.price());
    }

    public int mixed(int lot) {
        if (!batch.isThere()) {
            return NONE;
        }
        if (lot == NONE) {
            return batch.total();
        }
        return lots.has(lot) ? batch.unitsOf(lot) : NONE;
    }

    public int pour() {
        if (!batch.isThere()) {
            return answered(REFUSED_TEXT_OR_NONE);
        }
        int units = batch.takeFromLots();
        batch.clear();
        return answered(units == NONE ? REFUSED_TEXT_OR_NONE : units);
    }

    public int left(int lot) {
        return lots.has(lot) ? lots.unitsAt(lot) : NONE;
    }

    public int feed(int a, int b, int c, int d, int e) {
        if (tape.length() + FED_BYTES > MOST_TAPE) {
            return NONE;
        }
        tape.addNumber(a);
        tape.addNumber(b);
        tape.addNumber(c);
        tape.addNumber(d);
        tape.addNumber(e);
        return tape.length();
    }

    public int end(int n) {
        if (n < 0 || n > tape.length()) {
            return NONE;
        }
        tape.cut(n);
        return n;
    }

    public int rules() {
        faultPlace = reader.read(draft);
        tape.cut(0);
        if (faultPlace != NONE) {
            return answered(REFUSED_TEXT_OR_NONE);
        }
        RuleBook old = kept;
        kept = draft;
        draft = old;
        return answered(kept.length());
    }

    public int fault() {
        return faultPlace;
    }

    public int broken(int i) {
        if (i < 0) {
            return NONE;
        }
        casting.refresh();
        stripping.refresh();
        for (int k = i; k < kept.length(); k++) {
            if (judge.isBroken(kept.kindAt(k), kept.firstAt(k), kept.secondAt(k))) {
                return k;
            }
        }
        return NONE;
    }

    public int vessel(int marks) {
        if (!isWithin(marks, MOST_MARKS)) {
            return answered(REFUSED_NUMBER);
        }
        if (vessels.isFull()) {
            return answered(REFUSED_ROOM);
        }
        return answered(vessels.add(marks));
    }

    public int like(int a, int b) {
        if (!vessels.has(a) || !vessels.has(b)) {
            return NO_LIKENESS;
        }
        return vessels.likeness(a, b);
    }

    public int tell(int vessel, int workshop, int known) {
        if (workshop < NONE || workshop >= WORKSHOPS || !isWithin(known, LAST_YEAR)) {
            return answered(REFUSED_NUMBER);
        }
        if (!vessels.has(vessel)) {
            return answered(REFUSED_ABSENT);
        }
        if (vessels.isToldFull()) {
            return answered(REFUSED_ROOM);
        }
        return answered(vessels.addTold(vessel, workshop, known));
    }

    public int of(int vessel, int known) {
        if (!vessels.has(vessel) || !isWithin(known, LAST_YEAR)) {
            return REFUSED_ABSENT;
        }
        return vessels.workshopOf(vessel, known);
    }

    public int by(int vessel, int known) {
        if (!vessels.has(vessel) || !isWithin(known, LAST_YEAR)) {
            return REFUSED_ABSENT;
        }
        return vessels.workshopByMarks(vessel, known);
    }

    public int count(int what) {
        switch (what) {
            case 0:
                return grid.width();
            case 1:
                return grid.height();
            case 2:
                return lots.length();
            case 3:
                return kept.length();
            case 4:
                return vessels.length();
            case 5:
                return vessels.toldLength();
            case 6:
                return tape.length();
            default:
                return NONE;
        }
    }

    public int status() {
        return refusal;
    }

    /** Every call that status() tells of answers through here, so that none forgets to set it. */
    private int answered(int answer) {
        refusal = Math.min(answer, 0);
        return answer;
    }

    private int howManyPieces(int what) {
        switch (what) {
            case 0:
                return stripping.goneCount();
            case 1:
                return stripping.stuckCount();
            case 2:
                return stripping.pieceCount();
            default:
                return NONE;
        }
    }

    private static boolean isSort(int sort) {
        return (sort >= OPEN && sort <= VENT) || isClay(sort);
    }

    private static boolean isClay(int sort) {
        return sort >= CLAY && sort < CLAY + MOST_PIECES;
    }

    private static boolean isWithin(int number, int most) {
        return number >= 0 && number <= most;
    }

    /** The cells as drawn. */
    private static final class Grid {
        private final int[] sorts = new int[MOST_CELLS];
        private int width = FIRST_SIDE;
        private int height = FIRST_SIDE;
        private int edition = 0;

        int width() {
            return width;
        }

        int height() {
            return height;
        }

        /** Another number after each drawing: what was worked out for an older one is out of date. */
        int edition() {
            return edition;
        }

        boolean has(int x, int y) {
            return x >= 0 && x < width && y >= 0 && y < height;
        }

        int sortAt(int x, int y) {
            return has(x, y) ? sorts[y * MOST_SIDE + x] : NONE;
        }

        boolean isHollow(int x, int y) {
            if (!has(x, y)) {
                return false;
            }
            int sort = sorts[y * MOST_SIDE + x];
            return sort == OPEN || sort == GATE || sort == VENT;
        }

        void resize(int w, int h) {
            width = w;
            height = h;
            Arrays.fill(sorts, OPEN);
            edition++;
        }

        int fill(int x, int y, int u, int v, int sort) {
            if (!has(x, y) || !has(u, v)) {
                return 0;
            }
            int drawn = 0;
            for (int row = y; row <= v; row++) {
                for (int column = x; column <= u; column++) {
                    sorts[row * MOST_SIDE + column] = sort;
                    drawn++;
                }
            }
            edition++;
            return drawn;
        }

        int howMany(int lowest, int highest) {
            int found = 0;
            for (int y = 0; y < height; y++) {
                for (int x = 0; x < width; x++) {
                    int sort = sortAt(x, y);
                    if (sort >= lowest && sort <= highest) {
                        found++;
                    }
                }
            }
            return found;
        }
    }

    /** What becomes of the cells when metal is poured, and the repairs cast on afterwards. */
    private static final class Casting {
        private final Grid grid;
        private final int[] fates = new int[MOST_CELLS];
        private final boolean[] reached = new boolean[MOST_CELLS];
        private final int[] queue = new int[MOST_CELLS];
        private int queued = 0;
        private int spread = 0;
        private int edition = NONE;

        Casting(Grid drawnOn) {
            grid = drawnOn;
        }

        void refresh() {
            if (edition == grid.edition()) {
                return;
            }
            edition = grid.edition();
            letMetalCome();
            letAirOut();
        }

        int fateAt(int x, int y) {
            return grid.has(x, y) ? fates[y * MOST_SIDE + x] : SOLID;
        }

        int howMany(int fate) {
            int found = 0;
            for (int y = 0; y < grid.height(); y++) {
                for (int x = 0; x < grid.width(); x++) {
                    if (fateAt(x, y) == fate) {
                        found++;
                    }
                }
            }
            return found;
        }

        int howManySpacers() {
            return grid.howMany(SPACER, SPACER);
        }

        int howManyCores() {
            return grid.howMany(CORE, CORE);
        }

        boolean canMend(int x, int y) {
            int fate = fateAt(x, y);
            if (fate != DRY && fate != AIR) {
                return false;
            }
            for (int way = 0; way < WAYS; way++) {
                if (isMetal(x + WAY_X[way], y + WAY_Y[way])) {
                    return true;
                }
            }
            return false;
        }

        int mend(int x, int y) {
            if (grid.has(x, y)) {
                fates[y * MOST_SIDE + x] = REPAIRED;
            }
            return howMany(REPAIRED);
        }

        int wallAt(int x, int y) {
            if (!isMetal(x, y)) {
                return 0;
            }
            int row = 1 + stretch(x, y, 0) + stretch(x, y, 2);
            int column = 1 + stretch(x, y, 1) + stretch(x, y, 3);
            return Math.min(row, column);
        }

        int leastWall() {
            int least = 0;
            for (int y = 0; y < grid.height(); y++) {
                for (int x = 0; x < grid.width(); x++) {
                    int found = wallAt(x, y);
                    if (found > 0 && (least == 0 || found < least)) {
                        least = found;
                    }
                }
            }
            return least;
        }

        private boolean isMetal(int x, int y) {
            if (!grid.has(x, y)) {
                return false;
            }
            int fate = fates[y * MOST_SIDE + x];
            return fate == CAST || fate == REPAIRED;
        }

        private int stretch(int x, int y, int way) {
            int length = 0;
            for (int step = 1; step < MOST_SIDE; step++) {
                if (!isMetal(x + step * WAY_X[way], y + step * WAY_Y[way])) {
                    break;
                }
                length++;
            }
            return length;
        }

        /** Until letAirOut() every cell that metal can come to counts as caught air. */
        private void letMetalCome() {
            startFlood();
            for (int y = 0; y < grid.height(); y++) {
                for (int x = 0; x < grid.width(); x++) {
                    if (grid.sortAt(x, y) == GATE) {
                        reach(x, y);
                    }
                }
            }
            flood(0);
            for (int y = 0; y < grid.height(); y++) {
                for (int x = 0; x < grid.width(); x++) {
                    fates[y * MOST_SIDE + x] = fateWithAir(x, y);
                }
            }
        }

        private int fateWithAir(int x, int y) {
            if (grid.isHollow(x, y)) {
                return isReached(x, y) ? AIR : DRY;
            }
            return grid.sortAt(x, y) == SPACER ? CAST : SOLID;
        }

        /**
         * The cells joined with the air over rows y and above are also joined with it over lower
         * rows, so one flood serves for all rows if it goes on from the highest to the lowest.
         */
        private void letAirOut() {
            startFlood();
            for (int y = grid.height() - 1; y >= 0; y--) {
                for (int x = 0; x < grid.width(); x++) {
                    int sort = grid.sortAt(x, y);
                    if (sort == GATE || sort == VENT || isReached(x, y + 1)) {
                        reach(x, y);
                    }
                }
                flood(y);
                castRow(y);
            }
        }

        private void castRow(int y) {
            for (int x = 0; x < grid.width(); x++) {
                if (fateAt(x, y) == AIR && isReached(x, y)) {
                    fates[y * MOST_SIDE + x] = CAST;
                }
            }
        }

        private void startFlood() {
            for (int i = 0; i < MOST_CELLS; i++) {
                reached[i] = false;
            }
            queued = 0;
            spread = 0;
        }

        private boolean isReached(int x, int y) {
            return grid.has(x, y) && reached[y * MOST_SIDE + x];
        }

        private void reach(int x, int y) {
            if (!grid.isHollow(x, y) || isReached(x, y) || queued >= MOST_CELLS) {
                return;
            }
            reached[y * MOST_SIDE + x] = true;
            queue[queued] = y * MOST_SIDE + x;
            queued++;
        }

        private void flood(int lowestRow) {
            for (; spread < queued && spread < MOST_CELLS; spread++) {
                int x = queue[spread] % MOST_SIDE;
                int y = queue[spread] / MOST_SIDE;
                for (int way = 0; way < WAYS; way++) {
                    if (y + WAY_Y[way] >= lowestRow) {
                        reach(x + WAY_X[way], y + WAY_Y[way]);
                    }
                }
            }
        }
    }

    /** The order in which the pieces come off. Sets of pieces are masks, piece k being bit k. */
    private static final class Stripping {
        private static final int IMMOVABLE = 1 << MOST_PIECES;

        private final Grid grid;
        private final int[] inTheWay = new int[MOST_PIECES * WAYS];
        private final int[] order = new int[MOST_PIECES];
        private final int[] ways = new int[MOST_PIECES];
        private int there = 0;
        private int gone = 0;
        private int edition = NONE;

        Stripping(Grid drawnOn) {
            grid = drawnOn;
        }

        int pieceCount() {
            return Integer.bitCount(there);
        }

        int goneCount() {
            return Integer.bitCount(gone);
        }

        int stuckCount() {
            return pieceCount() - goneCount();
        }

        int pieceAt(int i) {
            return i >= 0 && i < goneCount() && i < MOST_PIECES ? order[i] : NONE;
        }

        int wayAt(int i) {
            return i >= 0 && i < goneCount() && i < MOST_PIECES ? ways[i] : NONE;
        }

        void refresh() {
            if (edition == grid.edition()) {
                return;
            }
            edition = grid.edition();
            there = 0;
            gone = 0;
            Arrays.fill(inTheWay, 0);
            for (int way = 0; way < WAYS; way++) {
                lookFromEdge(way);
            }
            for (int i = 0; i < MOST_PIECES; i++) {
                if (!takeLowestOff(i)) {
                    break;
                }
            }
        }

        private void lookFromEdge(int way) {
            for (int y = 0; y < grid.height(); y++) {
                for (int x = 0; x < grid.width(); x++) {
                    if (!grid.has(x + WAY_X[way], y + WAY_Y[way])) {
                        lookBack(x, y, way);
                    }
                }
            }
        }

        /** What has been passed since the edge is what the next cell would meet on its way there. */
        private void lookBack(int edgeX, int edgeY, int way) {
            int passed = 0;
            for (int step = 0; step < MOST_SIDE; step++) {
                int sort = grid.sortAt(edgeX - step * WAY_X[way], edgeY - step * WAY_Y[way]);
                if (sort == NONE) {
                    break;
                }
                if (isClay(sort)) {
                    inTheWay[(sort - CLAY) * WAYS + way] |= passed;
                    there |= 1 << (sort - CLAY);
                }
                passed |= maskOf(sort);
            }
        }

        private static int maskOf(int sort) {
            if (isClay(sort)) {
                return 1 << (sort - CLAY);
            }
            return sort == GATE || sort == VENT ? 0 : IMMOVABLE;
        }

        private boolean takeLowestOff(int i) {
            for (int piece = 0; piece < MOST_PIECES; piece++) {
                boolean stays = (there >> piece & 1) == 1 && (gone >> piece & 1) == 0;
                int way = stays ? lowestWay(piece) : NONE;
                if (way != NONE) {
                    gone |= 1 << piece;
                    order[i] = piece;
                    ways[i] = way;
                    return true;
                }
            }
            return false;
        }

        private int lowestWay(int piece) {
            int lets = gone | 1 << piece;
            for (int way = 0; way < WAYS; way++) {
                if ((inTheWay[piece * WAYS + way] & ~lets) == 0) {
                    return way;
                }
            }
            return NONE;
        }
    }

    /** The lots of metal. */
    private static final class Lots {
        private final int[] tins = new int[MOST_LOTS];
        private final int[] leads = new int[MOST_LOTS];
        private final int[] prices = new int[MOST_LOTS];
        private final int[] units = new int[MOST_LOTS];
        private int length = 0;

        int length() {
            return length;
        }

        boolean isFull() {
            return length >= MOST_LOTS;
        }

        boolean has(int i) {
            return i >= 0 && i < length && i < MOST_LOTS;
        }

        int add(int tin, int lead, int price, int there) {
            if (isFull()) {
                return NONE;
            }
            tins[length] = tin;
            leads[length] = lead;
            prices[length] = price;
            units[length] = there;
            length++;
            return length - 1;
        }

        int tinAt(int i) {
            return has(i) ? tins[i] : 0;
        }

        int leadAt(int i) {
            return has(i) ? leads[i] : 0;
        }

        int priceAt(int i) {
            return has(i) ? prices[i] : 0;
        }

        int unitsAt(int i) {
            return has(i) ? units[i] : 0;
        }

        void take(int i, int taken) {
            if (has(i)) {
                units[i] -= taken;
            }
        }
    }

    /** The latest mix. */
    private static final class Batch {
        private final Lots lots;
        private final int[] units = new int[MOST_LOTS];

        Batch(Lots mixedOf) {
            lots = mixedOf;
        }

        void clear() {
            Arrays.fill(units, 0);
        }

        void put(int lot, int some) {
            if (lot >= 0 && lot < MOST_LOTS) {
                units[lot] = some;
            }
        }

        /** A mix has one unit at least, so a batch of no units is none. */
        boolean isThere() {
            return total() > 0;
        }

        int unitsOf(int lot) {
            return lot >= 0 && lot < MOST_LOTS ? units[lot] : 0;
        }

        int total() {
            int sum = 0;
            for (int i = 0; i < MOST_LOTS; i++) {
                sum += units[i];
            }
            return sum;
        }

        int tin() {
            int sum = 0;
            for (int i = 0; i < MOST_LOTS; i++) {
                sum += units[i] * lots.tinAt(i);
            }
            return sum;
        }

        int lead() {
            int sum = 0;
            for (int i = 0; i < MOST_LOTS; i++) {
                sum += units[i] * lots.leadAt(i);
            }
            return sum;
        }

        int copper() {
            return total() * WHOLE - tin() - lead();
        }

        int takeFromLots() {
            for (int i = 0; i < MOST_LOTS; i++) {
                if (units[i] > lots.unitsAt(i)) {
                    return NONE;
                }
            }
            for (int i = 0; i < MOST_LOTS; i++) {
                lots.take(i, units[i]);
            }
            return total();
        }
    }

    /**
     * Looks for the mix of least price. All that bounds a mix is written as a sum over its units
     * that must not pass a ceiling, the price too: its ceiling sinks below each mix that is found.
     */
    private static final class Mixer {
        private static final int PRICE = 0;
        private static final int TIN = 1;
        private static final int OTHER_THAN_TIN = 2;
        private static final int LEAD = 3;
        private static final int SUMS = 4;
        private static final int RESTS = MOST_UNITS + 1;

        private final Lots lots;
        private final int[][] weights = new int[SUMS][MOST_LOTS];
        private final int[][] leastOf = new int[SUMS][(MOST_LOTS + 1) * RESTS];
        private final int[][] sums = new int[SUMS][MOST_LOTS + 1];
        private final int[] ceilings = new int[SUMS];
        private final int[] behind = new int[MOST_LOTS + 1];
        private final int[] row = new int[MOST_LOTS];
        private final int[] bestRow = new int[MOST_LOTS];
        private int last = 1;
        private int low = 0;
        private int high = 0;
        private boolean isFound = false;

        Mixer(Lots mixedOf) {
            lots = mixedOf;
        }

        boolean find(int n, int tinFrom, int tinTo, int leadTo) {
            isFound = false;
            ceilings[PRICE] = n * MOST_PRICE;
            ceilings[TIN] = n * tinTo;
            ceilings[OTHER_THAN_TIN] = n * (WHOLE - tinFrom);
            ceilings[LEAD] = n * leadTo;
            last = lastOfLots();
            weigh();
            foresee(n);
            search(0, n);
            return isFound;
        }

        int price() {
            return ceilings[PRICE] + 1;
        }

        int unitsOf(int lot) {
            return lot >= 0 && lot < MOST_LOTS ? bestRow[lot] : 0;
        }

        /** A lot that is not there counts as one without units, so that there always are two. */
        private int lastOfLots() {
            return Math.min(Math.max(lots.length() - 1, 1), MOST_LOTS - 1);
        }

        private void weigh() {
            for (int i = 0; i < MOST_LOTS; i++) {
                weights[PRICE][i] = lots.priceAt(i);
                weights[TIN][i] = lots.tinAt(i);
                weights[OTHER_THAN_TIN][i] = WHOLE - lots.tinAt(i);
                weights[LEAD][i] = lots.leadAt(i);
            }
        }

        private void foresee(int n) {
            behind[last + 1] = 0;
            for (int lot = last; lot >= 0; lot--) {
                behind[lot] = behind[lot + 1] + lots.unitsAt(lot);
                for (int sum = 0; sum < SUMS; sum++) {
                    foreseeFrom(lot, sum, n);
                }
            }
        }

        /**
         * The least that the lots from one on add to a sum, for each rest of units: every unit
         * more comes from this lot or from those behind it, wherever the next one weighs less.
         */
        private void foreseeFrom(int lot, int sum, int n) {
            int[] least = leastOf[sum];
            int here = lot * RESTS;
            int there = (lot + 1) * RESTS;
            int own = 0;
            least[here] = 0;
            for (int rest = 0; rest < n && rest < behind[lot]; rest++) {
                int others = rest - own;
                boolean fromBehind = own >= lots.unitsAt(lot) || others < behind[lot + 1]
                        && least[there + others + 1] - least[there + others] < weights[sum][lot];
                if (fromBehind) {
                    least[here + rest + 1] = least[here + rest]
                            + least[there + others + 1] - least[there + others];
                } else {
                    least[here + rest + 1] = least[here + rest] + weights[sum][lot];
                    own++;
                }
            }
        }

        /** Rows come in their order, and only a lesser price is taken: of alike ones the first stays. */
        private void search(int lot, int rest) {
            if (lot >= last - 1) {
                shareOut(rest);
                return;
            }
            int most = Math.min(rest, lots.unitsAt(lot));
            for (int some = Math.max(0, rest - behind[lot + 1]); some <= most; some++) {
                goOn(lot, some, rest - some);
            }
        }

        private void goOn(int lot, int some, int rest) {
            if (staysBelow(lot, some, rest)) {
                row[lot] = some;
                search(lot + 1, rest);
            }
        }

        private boolean staysBelow(int lot, int some, int rest) {
            for (int sum = 0; sum < SUMS; sum++) {
                int reached = sums[sum][lot] + some * weights[sum][lot];
                if (reached + leastOf[sum][(lot + 1) * RESTS + rest] > ceilings[sum]) {
                    return false;
                }
                sums[sum][lot + 1] = reached;
            }
            return true;
        }

        /** Between the last two lots every sum is a straight line, so an end of what fits is best. */
        private void shareOut(int rest) {
            int lot = last - 1;
            low = Math.max(0, rest - lots.unitsAt(last));
            high = Math.min(rest, lots.unitsAt(lot));
            for (int sum = 0; sum < SUMS; sum++) {
                narrow(sum, lot, rest);
            }
            if (low > high) {
                return;
            }
            row[lot] = weights[PRICE][lot] >= weights[PRICE][last] ? low : high;
            row[last] = rest - row[lot];
            keepRow();
        }

        private void narrow(int sum, int lot, int rest) {
            int slope = weights[sum][lot] - weights[sum][last];
            int slack = ceilings[sum] - sums[sum][lot] - rest * weights[sum][last];
            if (slope > 0) {
                high = Math.min(high, Math.floorDiv(slack, slope));
            } else if (slope < 0) {
                low = Math.max(low, -Math.floorDiv(slack, -slope));
            } else if (slack < 0) {
                high = NONE;
            }
        }

        private void keepRow() {
            int price = sums[PRICE][last - 1] + row[last - 1] * weights[PRICE][last - 1]
                    + row[last] * weights[PRICE][last];
            isFound = true;
            ceilings[PRICE] = price - 1;
            System.arraycopy(row, 0, bestRow, 0, MOST_LOTS);
        }
    }

    /** The bytes that a text of rules is fed by. */
    private static final class Tape {
        private final int[] bytes = new int[MOST_TAPE];
        private int length = 0;

        int length() {
            return length;
        }

        int byteAt(int i) {
            return i >= 0 && i < length && i < MOST_TAPE ? bytes[i] : NONE;
        }

        void addNumber(int number) {
            for (int shift = 24; shift >= 0 && length < MOST_TAPE; shift -= 8) {
                bytes[length] = (number >>> shift) & 255;
                length++;
            }
        }

        void cut(int n) {
            if (n >= 0 && n <= length) {
                length = n;
            }
        }
    }

    /** Rules that have been read. */
    private static final class RuleBook {
        private final int[] kinds = new int[MOST_RULES];
        private final int[] firsts = new int[MOST_RULES];
        private final int[] seconds = new int[MOST_RULES];
        private int length = 0;

        int length() {
            return length;
        }

        void clear() {
            length = 0;
        }

        void add(int kind, int first, int second) {
            if (length < MOST_RULES) {
                kinds[length] = kind;
                firsts[length] = first;
                seconds[length] = second;
                length++;
            }
        }

        int kindAt(int i) {
            return i >= 0 && i < length && i < MOST_RULES ? kinds[i] : NONE;
        }

        int firstAt(int i) {
            return i >= 0 && i < length && i < MOST_RULES ? firsts[i] : 0;
        }

        int secondAt(int i) {
            return i >= 0 && i < length && i < MOST_RULES ? seconds[i] : 0;
        }
    }

    /** Reads the tape token by token; the token at which it stops is the fault. */
    private static final class RuleReader {
        private final Tape tape;
        private int start = 0;
        private int stop = 0;

        RuleReader(Tape readFrom) {
            tape = readFrom;
        }

        /** The place of the fault, or NONE. */
        int read(RuleBook book) {
            book.clear();
            stop = 0;
            advance();
            if (isAtEnd()) {
                return NONE;
            }
            for (int i = 0; i < MOST_RULES; i++) {
                if (!readRule(book)) {
                    return start;
                }
                if (isAtEnd()) {
                    return NONE;
                }
                if (!isWord(";")) {
                    return start;
                }
                advance();
            }
            return start;
        }

        private boolean readRule(RuleBook book) {
            int kind = kindHere();
            if (kind == NONE) {
                return false;
            }
            advance();
            String ahead = wordAhead(kind);
            if (!ahead.isEmpty() && !skipWord(ahead)) {
                return false;
            }
            int first = readNumber(0);
            if (first == NONE) {
                return false;
            }
            String between = wordBetween(kind);
            if (between.isEmpty()) {
                book.add(kind, first, 0);
                return true;
            }
            if (!skipWord(between)) {
                return false;
            }
            int second = readNumber(kind == SPACERS_RULE ? 1 : first);
            if (second == NONE) {
                return false;
            }
            book.add(kind, first, second);
            return true;
        }

        private int kindHere() {
            for (int kind = 0; kind < RULE_KINDS; kind++) {
                if (isWord(nameOf(kind))) {
                    return kind;
                }
            }
            return NONE;
        }

        private static String nameOf(int kind) {
            switch (kind) {
                case TIN_RULE:
                    return "tin";
                case LEAD_RULE:
                    return "lead";
                case COPPER_RULE:
                    return "copper";
                case WALL_RULE:
                    return "wall";
                case AIR_RULE:
                    return "air";
                case DRY_RULE:
                    return "dry";
                case STUCK_RULE:
                    return "stuck";
                case PIECES_RULE:
                    return "pieces";
                default:
                    return "spacers";
            }
        }

        private static String wordAhead(int kind) {
            return isOfMetal(kind) ? "from" : "";
        }

        private static String wordBetween(int kind) {
            if (isOfMetal(kind)) {
                return "to";
            }
            return kind == SPACERS_RULE ? "every" : "";
        }

        private static boolean isOfMetal(int kind) {
            return kind == TIN_RULE || kind == LEAD_RULE || kind == COPPER_RULE;
        }

        private boolean skipWord(String word) {
            if (!isWord(word)) {
                return false;
            }
            advance();
            return true;
        }

        /** A number from least to the highest there is, or NONE: then its token stays the one here. */
        private int readNumber(int least) {
            if (!isDigit(tape.byteAt(start))) {
                return NONE;
            }
            int number = 0;
            for (int i = start; i < stop; i++) {
                number = Math.min(number * 10 + tape.byteAt(i) - '0', MOST_NUMBER + 1);
            }
            if (number < least || number > MOST_NUMBER) {
                return NONE;
            }
            advance();
            return number;
        }

        private boolean isWord(String word) {
            if (stop - start != word.length()) {
                return false;
            }
            for (int i = 0; i < word.length(); i++) {
                if (tape.byteAt(start + i) != word.charAt(i)) {
                    return false;
                }
            }
            return true;
        }

        private boolean isAtEnd() {
            return start >= tape.length();
        }

        private void advance() {
            start = stop;
            while (start < tape.length() && tape.byteAt(start) == BLANK) {
                start++;
            }
            stop = Math.min(start + 1, tape.length());
            boolean letters = isLetter(tape.byteAt(start));
            boolean digits = isDigit(tape.byteAt(start));
            while (stop < tape.length() && (letters && isLetter(tape.byteAt(stop))
                    || digits && isDigit(tape.byteAt(stop)))) {
                stop++;
            }
        }

        private static boolean isLetter(int one) {
            return one >= 'a' && one <= 'z';
        }

        private static boolean isDigit(int one) {
            return one >= '0' && one <= '9';
        }
    }

    /** Says whether a rule is broken by the mould and the latest mix. */
    private static final class Judge {
        private final Casting casting;
        private final Stripping stripping;
        private final Batch batch;

        Judge(Casting cast, Stripping stripped, Batch poured) {
            casting = cast;
            stripping = stripped;
            batch = poured;
        }

        /** The casting and the stripping have been refreshed by the caller. */
        boolean isBroken(int kind, int first, int second) {
            switch (kind) {
                case TIN_RULE:
                    return isOutside(batch.tin(), first, second);
                case LEAD_RULE:
                    return isOutside(batch.lead(), first, second);
                case COPPER_RULE:
                    return isOutside(batch.copper(), first, second);
                case WALL_RULE:
                    return casting.leastWall() < first;
                case AIR_RULE:
                    return casting.howMany(AIR) > first;
                case DRY_RULE:
                    return casting.howMany(DRY) > first;
                case STUCK_RULE:
                    return stripping.stuckCount() > first;
                case PIECES_RULE:
                    return stripping.pieceCount() > first;
                case SPACERS_RULE:
                    return casting.howManySpacers() * second < first * casting.howManyCores();
                default:
                    return false;
            }
        }

        private boolean isOutside(int sum, int from, int to) {
            int units = batch.total();
            return units == 0 || sum < from * units || sum > to * units;
        }
    }

    /** The vessels, their marks, and what was told of their workshops. */
    private static final class Vessels {
        private final int[] marks = new int[MOST_VESSELS * MARKS];
        private final int[] toldVessels = new int[MOST_TOLD];
        private final int[] toldWorkshops = new int[MOST_TOLD];
        private final int[] toldYears = new int[MOST_TOLD];
        private final int[] likenesses = new int[WORKSHOPS];
        private final int[] others = new int[WORKSHOPS];
        private int length = 0;
        private int told = 0;

        int length() {
            return length;
        }

        int toldLength() {
            return told;
        }

        boolean isFull() {
            return length >= MOST_VESSELS;
        }

        boolean isToldFull() {
            return told >= MOST_TOLD;
        }

        boolean has(int vessel) {
            return vessel >= 0 && vessel < length && vessel < MOST_VESSELS;
        }

        int add(int digits) {
            if (isFull()) {
                return NONE;
            }
            int rest = digits;
            for (int i = 0; i < MARKS; i++) {
                marks[length * MARKS + i] = rest % 10;
                rest /= 10;
            }
            length++;
            return length - 1;
        }

        int likeness(int a, int b) {
            if (!has(a) || !has(b)) {
                return 0;
            }
            int sum = 0;
            for (int i = 0; i < MARKS; i++) {
                int one = marks[a * MARKS + i];
                int other = marks[b * MARKS + i];
                if (one != 0 && other != 0) {
                    sum += one == other ? 1 : -1;
                }
            }
            return sum;
        }

        int addTold(int vessel, int workshop, int year) {
            if (isToldFull()) {
                return NONE;
            }
            toldVessels[told] = vessel;
            toldWorkshops[told] = workshop;
            toldYears[told] = year;
            told++;
            return told;
        }

        int workshopOf(int vessel, int year) {
            for (int i = told - 1; i >= 0; i--) {
                if (toldVessels[i] == vessel && toldYears[i] <= year) {
                    return toldWorkshops[i];
                }
            }
            return NONE;
        }

        int workshopByMarks(int vessel, int year) {
            compareWithOthers(vessel, year);
            int best = NONE;
            for (int i = 0; i < WORKSHOPS; i++) {
                if (others[i] > 0 && (best == NONE || isLiker(i, best))) {
                    best = i;
                }
            }
            return best;
        }

        private void compareWithOthers(int vessel, int year) {
            Arrays.fill(likenesses, 0);
            Arrays.fill(others, 0);
            for (int other = 0; other < length; other++) {
                int workshop = other == vessel ? NONE : workshopOf(other, year);
                if (workshop >= 0 && workshop < WORKSHOPS) {
                    likenesses[workshop] += likeness(vessel, other);
                    others[workshop]++;
                }
            }
        }

        private boolean isLiker(int one, int other) {
            return likenesses[one] * others[other] > likenesses[other] * others[one];
        }
    }
}
