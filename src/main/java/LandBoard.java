/**
 * Lands on a board of cells that swell and shrink to told numbers, cell by cell.
 * What each call does and answers is told by ../shared/DOC.md, promise by promise.
 * All rows are made with the object: no call makes any, but for the four years.
 */
public final class LandBoard {
    public static final int BAD = -1, STATE = -2, FULL = -3, SEA = -4, NONE = -9;

    private static final int LANDS = 6;
    private static final int SIDE = 8;
    private static final int CELLS = SIDE * SIDE;
    private static final int MOST_WANTED = 64;
    private static final int MOST_STEPS = 64;
    private static final int MOST_MOVES = 100;
    private static final int YEARS = 4;
    private static final int LAND = 0, HOME = 1, SHORE = 2;
    private static final long FIRST_COLUMN = 0x0101010101010101L;
    private static final long LAST_COLUMN = FIRST_COLUMN << (SIDE - 1);
    private static final long FIRST_ROW = 0xffL;
    private static final long LAST_ROW = FIRST_ROW << (SIDE * (SIDE - 1));
    private static final long RIM = FIRST_COLUMN | LAST_COLUMN | FIRST_ROW | LAST_ROW;

    private final Grid now = new Grid();
    private final Moves moves = new Moves();
    private final Rows rows = new Rows();
    private final Grid[] years = new Grid[YEARS];
    private final int[] kinds = new int[LANDS];
    private final int[] owns = new int[LANDS];
    private final int[] wants = new int[LANDS];
    private long asked;

    public LandBoard() {
        now.clear(4, 4);
        forgetKinds();
    }

    // ---- the board

    public int board(int w, int h) {
        if (w < 1 || w > SIDE || h < 1 || h > SIDE) {
            return BAD;
        }
        now.clear(w, h);
        forgetKinds();
        moves.forget();
        return w * h;
    }

    public int set(int x, int y, int land) {
        if (!now.has(x, y) || !isLandOrSea(land)) {
            return BAD;
        }
        int was = now.landOf(cellAt(x, y));
        now.put(cellAt(x, y), land);
        moves.forget();
        return was;
    }

    public int at(int x, int y) {
        return now.has(x, y) ? now.landOf(cellAt(x, y)) : BAD;
    }

    public int size(int land) {
        return isLand(land) ? now.sizeOf(land) : BAD;
    }

    public int whole(int land) {
        return isLand(land) ? answer(isWhole(now.cellsOf(land))) : BAD;
    }

    public int touch(int one, int other) {
        if (!isLandOrSea(one) || !isLandOrSea(other) || one == other) {
            return BAD;
        }
        if (one == SEA) {
            return answer(now.isAtSea(now.cellsOf(other)));
        }
        if (other == SEA) {
            return answer(now.isAtSea(now.cellsOf(one)));
        }
        return answer((around(now.cellsOf(one)) & now.cellsOf(other)) != 0);
    }

    public int kind(int land, int kind, int x, int y) {
        if (!isLand(land) || kind < LAND || kind > SHORE || (kind != LAND && !now.has(x, y))) {
            return BAD;
        }
        if (kind != LAND && now.landOf(cellAt(x, y)) != land) {
            return STATE;
        }
        kinds[land] = kind;
        owns[land] = kind == LAND ? NONE : cellAt(x, y);
        return 1;
    }

    public int about(int land, int what) {
        if (!isLand(land)) {
            return BAD;
        }
        switch (what) {
            case 0:
                return kinds[land];
            case 1:
                return owns[land] == NONE ? NONE : columnOf(owns[land]);
            case 2:
                return owns[land] == NONE ? NONE : rowOf(owns[land]);
            case 3:
                return wants[land];
            default:
                return BAD;
        }
    }

    // ---- moves

    public int leaves(int x, int y) {
        int land = at(x, y);
        if (!isLand(land)) {
            return BAD;
        }
        asked += bodiesAsked(kinds[land]);
        return answer(letsGo(land, cellAt(x, y)));
    }

    public int may(int x, int y, int land) {
        return now.has(x, y) && isLand(land) ? answer(canGo(cellAt(x, y), land)) : BAD;
    }

    public int move(int x, int y, int land) {
        if (!now.has(x, y) || !isLand(land)) {
            return BAD;
        }
        if (!canGo(cellAt(x, y), land)) {
            return STATE;
        }
        int was = now.landOf(cellAt(x, y));
        go(cellAt(x, y), land);
        return was;
    }

    public int want(int land, int n) {
        if (!isLand(land) || n < 0 || n > MOST_WANTED) {
            return BAD;
        }
        int was = wants[land];
        wants[land] = n;
        return was;
    }

    public int miss() {
        int sum = 0;
        for (int land = 0; land < LANDS; land++) {
            if (now.sizeOf(land) > 0) {
                sum += missWith(land, now.sizeOf(land));
            }
        }
        return sum;
    }

    public int steps(int n) {
        if (n < 1 || n > MOST_STEPS) {
            return BAD;
        }
        int done = 0;
        while (done < n && step()) {
            done++;
        }
        return done;
    }

    public int undo(int n) {
        if (n < 1 || n > MOST_MOVES) {
            return BAD;
        }
        int undone = 0;
        while (undone < n && moves.kept > 0) {
            now.put(moves.latestCell(), moves.latestFrom());
            moves.dropLatest();
            undone++;
        }
        return undone;
    }

    public int label(int land, int what) {
        if (!isLand(land) || what < 0 || what > 2) {
            return BAD;
        }
        long midst = now.cellsOf(land);
        if (midst == 0) {
            return NONE;
        }
        // A set shrinks by its rim with each step that its cells are away from the others.
        int far = 1;
        for (int k = 0; k < SIDE && inside(midst) != 0; k++) {
            midst = inside(midst);
            far++;
        }
        int cell = firstOf(midst);
        return what == 0 ? columnOf(cell) : what == 1 ? rowOf(cell) : far;
    }

    // ---- boxes, years

    public int longer(int cuts, int land, int part) {
        if (part < 0 || part > 1 || !hasBox(cuts, land)) {
            return BAD;
        }
        rows.read(now);
        rows.lay(cuts);
        int upper = rows.longUpper(rows.placeOf(land));
        int lower = rows.longLower(rows.placeOf(land));
        int common = commonDivisor(upper, lower);
        return common < 1 ? BAD : (part == 0 ? upper : lower) / common;
    }

    public int box(int cuts, int land, int what) {
        if (what < 0 || what > 3 || !hasBox(cuts, land)) {
            return BAD;
        }
        rows.read(now);
        rows.lay(cuts);
        return rows.side(rows.placeOf(land), what);
    }

    public int best() {
        rows.read(now);
        return rows.boxes == 0 ? NONE : rows.bestCuts();
    }

    public int keep(int year) {
        if (!isYear(year)) {
            return BAD;
        }
        Grid kept = years[year];
        if (kept == null) {
            kept = new Grid();
            years[year] = kept;
        }
        kept.copy(now);
        return now.landCells();
    }

    public int back(int year) {
        if (!isYear(year)) {
            return BAD;
        }
        Grid kept = years[year];
        if (kept == null) {
            return STATE;
        }
        now.copy(kept);
        forgetKinds();
        moves.forget();
        return now.landCells();
    }

    public int moved(int one, int other) {
        if (!isYear(one) || !isYear(other)) {
            return BAD;
        }
        Grid first = years[one];
        Grid second = years[other];
        if (first == null || second == null || !first.isAsLargeAs(second)) {
            return NONE;
        }
        return first.unlike(second);
    }

    public int count(int what) {
        switch (what) {
            case 0:
                return now.width;
            case 1:
                return now.height;
            case 2:
                return now.peopled();
            case 3:
                return moves.kept;
            case 4:
                return moves.done;
            default:
                return BAD;
        }
    }

    public long trace() {
        return asked;
    }

    // ---- kinds

    private void forgetKinds() {
        for (int land = 0; land < LANDS; land++) {
            kinds[land] = LAND;
            owns[land] = NONE;
        }
    }

    /** Each kind asks the one over it first, whatever comes of it, so all bodies over it are asked, once each. */
    private static int bodiesAsked(int kind) {
        return kind == SHORE ? 111 : kind == HOME ? 11 : 1;
    }

    private boolean letsGo(int land, int cell) {
        if (!isLand(land)) {
            return false;
        }
        long rest = now.cellsOf(land) & ~bit(cell);
        boolean asLand = isWhole(rest);
        boolean asHome = asLand && cell != owns[land];
        // The cell goes to another land, not to the sea, so the sea stays as it is.
        boolean asShore = asHome && now.isAtSea(rest);
        return kinds[land] == SHORE ? asShore : kinds[land] == HOME ? asHome : asLand;
    }

    // ---- going

    private boolean canGo(int cell, int to) {
        int from = now.landOf(cell);
        if (from == SEA || from == to || (around(bit(cell)) & now.cellsOf(to)) == 0 || !letsGo(from, cell)) {
            return false;
        }
        long ahead = now.touching();
        now.put(cell, to);
        long behind = now.touching();
        now.put(cell, from);
        return ahead == behind;
    }

    private void go(int cell, int to) {
        moves.add(cell, now.landOf(cell));
        now.put(cell, to);
    }

    private int missWith(int land, int size) {
        return isLand(land) ? Math.abs(size - wants[land]) : 0;
    }

    private int missBehind(int miss, int from, int to) {
        int fromSize = now.sizeOf(from);
        int toSize = now.sizeOf(to);
        return miss - missWith(from, fromSize) + missWith(from, fromSize - 1)
            - missWith(to, toSize) + missWith(to, toSize + 1);
    }

    private boolean step() {
        int ahead = miss();
        int least = ahead;
        int bestCell = 0;
        int bestLand = 0;
        for (int cell = 0; cell < CELLS; cell++) {
            int from = now.landOf(cell);
            for (int to = 0; to < LANDS && from != SEA; to++) {
                int behind = missBehind(ahead, from, to);
                // Only a lesser miss replaces, so the first cell and its least land stay.
                if (behind < least && canGo(cell, to)) {
                    least = behind;
                    bestCell = cell;
                    bestLand = to;
                }
            }
        }
        if (least < ahead) {
            go(bestCell, bestLand);
        }
        return least < ahead;
    }

    // ---- looking at numbers

    private static int answer(boolean yes) {
        return yes ? 1 : 0;
    }

    private static boolean isLand(int land) {
        return land >= 0 && land < LANDS;
    }

    private static boolean isLandOrSea(int land) {
        return land == SEA || isLand(land);
    }

    private static boolean isYear(int year) {
        return year >= 0 && year < YEARS;
    }

    private boolean hasBox(int cuts, int land) {
        return isLand(land) && now.sizeOf(land) > 0 && cuts >= 0 && cuts < 1 << (now.peopled() - 1);
    }

    private static int thousandths(int part, int all) {
        return all > 0 ? part * 1000 / all : 0;
    }

    private static int commonDivisor(int one, int other) {
        int greater = one;
        int lesser = other;
        for (int k = 0; k < CELLS && lesser != 0; k++) {
            int rest = greater % lesser;
            greater = lesser;
            lesser = rest;
        }
        return greater;
    }

    // ---- sets of cells: the cell in column x and row y is bit x + 8 * y on boards of any size,
    // so that the first cell of a set is its lowest bit

    private static int cellAt(int x, int y) {
        return x + SIDE * y;
    }

    private static int columnOf(int cell) {
        return cell % SIDE;
    }

    private static int rowOf(int cell) {
        return cell / SIDE;
    }

    private static long bit(int cell) {
        return 1L << cell;
    }

    private static long toRight(long cells) {
        return (cells & ~LAST_COLUMN) << 1;
    }

    private static long toLeft(long cells) {
        return (cells & ~FIRST_COLUMN) >>> 1;
    }

    /** The neighbours of cells; on boards of fewer than eight rows or columns also those that lie outside. */
    private static long around(long cells) {
        return toRight(cells) | toLeft(cells) | (cells << SIDE) | (cells >>> SIDE);
    }

    /** The cells of a set that have all their four neighbours in it. */
    private static long inside(long cells) {
        return cells & toRight(cells) & toLeft(cells) & (cells << SIDE) & (cells >>> SIDE);
    }

    private static boolean isWhole(long cells) {
        long reached = cells & -cells;
        for (int k = 0; k < CELLS; k++) {
            long further = reached | (around(reached) & cells);
            if (further == reached) {
                break;
            }
            reached = further;
        }
        return cells != 0 && reached == cells;
    }

    private static int firstOf(long cells) {
        for (int cell = 0; cell < CELLS; cell++) {
            if ((cells & bit(cell)) != 0) {
                return cell;
            }
        }
        return 0;
    }

    /** A board: its size, and for each land the set of its cells. */
    private static final class Grid {
        final long[] lands = new long[LANDS];
        int width;
        int height;

        void clear(int w, int h) {
            width = w;
            height = h;
            for (int land = 0; land < LANDS; land++) {
                lands[land] = 0;
            }
        }

        void copy(Grid other) {
            width = other.width;
            height = other.height;
            for (int land = 0; land < LANDS; land++) {
                lands[land] = other.lands[land];
            }
        }

        boolean has(int x, int y) {
            return x >= 0 && x < width && y >= 0 && y < height;
        }

        int landOf(int cell) {
            for (int land = 0; land < LANDS; land++) {
                if ((lands[land] & bit(cell)) != 0) {
                    return land;
                }
            }
            return SEA;
        }

        void put(int cell, int to) {
            for (int land = 0; land < LANDS; land++) {
                lands[land] &= ~bit(cell);
                if (land == to) {
                    lands[land] |= bit(cell);
                }
            }
        }

        long cellsOf(int land) {
            return isLand(land) ? lands[land] : 0;
        }

        int sizeOf(int land) {
            return Long.bitCount(cellsOf(land));
        }

        private long peopledCells() {
            long peopled = 0;
            for (int land = 0; land < LANDS; land++) {
                peopled |= lands[land];
            }
            return peopled;
        }

        int landCells() {
            return Long.bitCount(peopledCells());
        }

        int peopled() {
            int sum = 0;
            for (int land = 0; land < LANDS; land++) {
                sum += lands[land] != 0 ? 1 : 0;
            }
            return sum;
        }

        boolean isAtSea(long cells) {
            // What lies outside a smaller board is no land's, so its edges are beside sea as it is.
            return (cells & RIM) != 0 || (around(cells) & ~peopledCells()) != 0;
        }

        /** Who touches whom, a bit for each two of the lands and the sea. */
        long touching() {
            long pairs = 0;
            for (int one = 0; one < LANDS; one++) {
                long near = around(lands[one]);
                for (int other = one + 1; other < LANDS; other++) {
                    if ((near & lands[other]) != 0) {
                        pairs |= bit(one * SIDE + other);
                    }
                }
                if (isAtSea(lands[one])) {
                    pairs |= bit(one * SIDE + LANDS);
                }
            }
            return pairs;
        }

        boolean isAsLargeAs(Grid other) {
            return width == other.width && height == other.height;
        }

        int unlike(Grid other) {
            long cells = 0;
            for (int land = 0; land < LANDS; land++) {
                cells |= lands[land] ^ other.lands[land];
            }
            return Long.bitCount(cells);
        }
    }

    /** The latest moves, in a ring: the oldest makes room for the newest. */
    private static final class Moves {
        final int[] cells = new int[MOST_MOVES];
        final int[] froms = new int[MOST_MOVES];
        int top;
        int kept;
        int done;

        void add(int cell, int from) {
            int place = Math.floorMod(top, MOST_MOVES);
            cells[place] = cell;
            froms[place] = from;
            top++;
            kept = Math.min(kept + 1, MOST_MOVES);
            done++;
        }

        int latestCell() {
            return cells[Math.floorMod(top - 1, MOST_MOVES)];
        }

        int latestFrom() {
            return froms[Math.floorMod(top - 1, MOST_MOVES)];
        }

        void dropLatest() {
            top--;
            kept--;
        }

        void forget() {
            kept = 0;
        }
    }

    /**
     * Rows of boxes: the lands that have cells stand at places 0, 1 .. by their numbers.
     * What is left, above and in a row is held as weights, so that nothing is rounded ahead of the answer.
     */
    private static final class Rows {
        final int[] places = new int[LANDS];
        final int[] weights = new int[LANDS];
        final int[] lefts = new int[LANDS];
        final int[] aboves = new int[LANDS];
        final int[] rowWeights = new int[LANDS];
        int boxes;
        int total;

        void read(Grid grid) {
            boxes = 0;
            total = 0;
            for (int land = 0; land < LANDS; land++) {
                places[land] = boxes;
                if (grid.sizeOf(land) > 0 && boxes < LANDS) {
                    weights[boxes] = grid.sizeOf(land);
                    total += weights[boxes];
                    boxes++;
                }
            }
        }

        int placeOf(int land) {
            return isLand(land) ? places[land] : 0;
        }

        void lay(int cuts) {
            int start = 0;
            int above = 0;
            for (int place = 0; place < boxes; place++) {
                if (place == boxes - 1 || ((cuts >> place) & 1) != 0) {
                    above += layRow(start, place, above);
                    start = place + 1;
                }
            }
        }

        private int layRow(int first, int last, int above) {
            int left = 0;
            for (int place = Math.max(first, 0); place <= last && place < LANDS; place++) {
                lefts[place] = left;
                aboves[place] = above;
                left += weights[place];
            }
            for (int place = Math.max(first, 0); place <= last && place < LANDS; place++) {
                rowWeights[place] = left;
            }
            return left;
        }

        int side(int place, int what) {
            if (place < 0 || place >= LANDS) {
                return 0;
            }
            switch (what) {
                case 0:
                    return thousandths(lefts[place], rowWeights[place]);
                case 1:
                    return thousandths(aboves[place], total);
                case 2:
                    return thousandths(weights[place], rowWeights[place]);
                default:
                    return thousandths(rowWeights[place], total);
            }
        }

        /** A side times the row's weight and the total: a whole number, and LONG stays what it is. */
        private int scaledHeight(int place) {
            return place >= 0 && place < LANDS ? rowWeights[place] * rowWeights[place] : 0;
        }

        private int scaledWidth(int place) {
            return place >= 0 && place < LANDS ? weights[place] * total : 0;
        }

        int longUpper(int place) {
            return Math.max(scaledHeight(place), scaledWidth(place));
        }

        int longLower(int place) {
            return Math.min(scaledHeight(place), scaledWidth(place));
        }

        private int longestPlace() {
            int longest = 0;
            for (int place = 1; place < boxes; place++) {
                if (longUpper(place) * longLower(longest) > longUpper(longest) * longLower(place)) {
                    longest = place;
                }
            }
            return longest;
        }

        int bestCuts() {
            int best = 0;
            int bestUpper = 0;
            int bestLower = 0;
            for (int cuts = 0; cuts < 1 << Math.max(boxes - 1, 0); cuts++) {
                lay(cuts);
                int upper = longUpper(longestPlace());
                int lower = longLower(longestPlace());
                if (cuts == 0 || upper * bestLower < bestUpper * lower) {
                    best = cuts;
                    bestUpper = upper;
                    bestLower = lower;
                }
            }
            return best;
        }
    }
}
