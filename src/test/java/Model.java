import java.util.ArrayList;
import java.util.Arrays;
import java.util.List;

/** The document once more, by cells and lists instead of bits: slow, and made to be compared with. */
final class Model {
    private static final int BAD = -1, STATE = -2, SEA = -4, NONE = -9;
    private static final int[][] SIDES = {{1, 0}, {-1, 0}, {0, 1}, {0, -1}};

    private int[][] cells;
    private final int[] kinds = new int[6];
    private final int[][] owns = new int[6][];
    private final int[] wants = new int[6];
    private final List<int[]> moves = new ArrayList<>();
    private final int[][][] years = new int[4][][];
    private int done = 0;
    private long asked = 0;

    Model() {
        cells = sea(4, 4);
    }

    private static int[][] sea(int w, int h) {
        int[][] sea = new int[h][w];
        for (int[] row : sea) {
            Arrays.fill(row, SEA);
        }
        return sea;
    }

    private static int[][] copy(int[][] from) {
        int[][] to = new int[from.length][];
        for (int y = 0; y < from.length; y++) {
            to[y] = from[y].clone();
        }
        return to;
    }

    private int w() {
        return cells[0].length;
    }

    private int h() {
        return cells.length;
    }

    private boolean on(int x, int y) {
        return x >= 0 && y >= 0 && x < w() && y < h();
    }

    private static boolean land(int land) {
        return 0 <= land && land <= 5;
    }

    private static boolean in(int low, int n, int high) {
        return low <= n && n <= high;
    }

    private static int yes(boolean yes) {
        return yes ? 1 : 0;
    }

    private int landCells() {
        int n = 0;
        for (int land = 0; land < 6; land++) {
            n += size(land);
        }
        return n;
    }

    private void renew() {
        Arrays.fill(kinds, 0);
        Arrays.fill(owns, null);
        moves.clear();
    }

    int board(int w, int h) {
        if (!in(1, w, 8) || !in(1, h, 8)) {
            return BAD;
        }
        cells = sea(w, h);
        renew();
        return w * h;
    }

    int set(int x, int y, int land) {
        if (!on(x, y) || !land(land) && land != SEA) {
            return BAD;
        }
        int was = cells[y][x];
        cells[y][x] = land;
        moves.clear();
        return was;
    }

    int at(int x, int y) {
        return on(x, y) ? cells[y][x] : BAD;
    }

    int size(int land) {
        if (!land(land)) {
            return BAD;
        }
        int n = 0;
        for (int[] row : cells) {
            for (int cell : row) {
                n += yes(cell == land);
            }
        }
        return n;
    }

    private static boolean wholeOn(int[][] cells, int land) {
        int n = 0;
        int sx = -1;
        int sy = -1;
        for (int y = 0; y < cells.length; y++) {
            for (int x = 0; x < cells[y].length; x++) {
                if (cells[y][x] == land) {
                    n++;
                    sx = x;
                    sy = y;
                }
            }
        }
        return n > 0 && reach(copy(cells), sx, sy, land) == n;
    }

    private static int reach(int[][] cells, int x, int y, int land) {
        if (y < 0 || x < 0 || y >= cells.length || x >= cells[y].length || cells[y][x] != land) {
            return 0;
        }
        cells[y][x] = -100;
        int n = 1;
        for (int[] side : SIDES) {
            n += reach(cells, x + side[0], y + side[1], land);
        }
        return n;
    }

    int whole(int land) {
        return land(land) ? yes(wholeOn(cells, land)) : BAD;
    }

    private static boolean touchOn(int[][] cells, int one, int other) {
        for (int y = 0; y < cells.length; y++) {
            for (int x = 0; x < cells[y].length; x++) {
                for (int[] side : SIDES) {
                    int nx = x + side[0];
                    int ny = y + side[1];
                    boolean outside = ny < 0 || nx < 0 || ny >= cells.length || nx >= cells[y].length;
                    int there = outside ? SEA : cells[ny][nx];
                    if (cells[y][x] == one && there == other || cells[y][x] == other && there == one) {
                        return true;
                    }
                }
            }
        }
        return false;
    }

    int touch(int one, int other) {
        if (!land(one) && one != SEA || !land(other) && other != SEA || one == other) {
            return BAD;
        }
        return yes(touchOn(cells, one, other));
    }

    int kind(int land, int kind, int x, int y) {
        if (!land(land) || !in(0, kind, 2) || kind > 0 && !on(x, y)) {
            return BAD;
        }
        if (kind > 0 && cells[y][x] != land) {
            return STATE;
        }
        kinds[land] = kind;
        owns[land] = kind > 0 ? new int[] {x, y} : null;
        return 1;
    }

    int about(int land, int what) {
        if (!land(land) || !in(0, what, 3)) {
            return BAD;
        }
        if (what == 0) {
            return kinds[land];
        }
        if (what == 3) {
            return wants[land];
        }
        return owns[land] == null ? NONE : owns[land][what - 1];
    }

    /** What the cell goes to: the least land that is not its own stands for all others. */
    private boolean lets(int x, int y) {
        int land = cells[y][x];
        int[][] without = copy(cells);
        without[y][x] = land == 0 ? 1 : 0;
        if (!wholeOn(without, land)) {
            return false;
        }
        if (kinds[land] >= 1 && owns[land][0] == x && owns[land][1] == y) {
            return false;
        }
        return kinds[land] < 2 || touchOn(without, land, SEA);
    }

    int leaves(int x, int y) {
        if (!on(x, y) || cells[y][x] == SEA) {
            return BAD;
        }
        long[] numbers = {1, 10, 100};
        for (int kind = kinds[cells[y][x]]; kind >= 0; kind--) {
            asked += numbers[kind];
        }
        return yes(lets(x, y));
    }

    int may(int x, int y, int land) {
        if (!on(x, y) || !land(land)) {
            return BAD;
        }
        int from = cells[y][x];
        if (from == SEA || from == land) {
            return 0;
        }
        boolean beside = false;
        for (int[] side : SIDES) {
            beside |= at(x + side[0], y + side[1]) == land;
        }
        if (!beside || !lets(x, y)) {
            return 0;
        }
        int[][] behind = copy(cells);
        behind[y][x] = land;
        int[] all = {0, 1, 2, 3, 4, 5, SEA};
        for (int one : all) {
            for (int other : all) {
                if (one != other && touchOn(cells, one, other) != touchOn(behind, one, other)) {
                    return 0;
                }
            }
        }
        return 1;
    }

    int move(int x, int y, int land) {
        int may = may(x, y, land);
        if (may != 1) {
            return may == 0 ? STATE : BAD;
        }
        int was = cells[y][x];
        cells[y][x] = land;
        moves.add(new int[] {x, y, was});
        if (moves.size() > 100) {
            moves.remove(0);
        }
        done++;
        return was;
    }

    int want(int land, int n) {
        if (!land(land) || !in(0, n, 64)) {
            return BAD;
        }
        int was = wants[land];
        wants[land] = n;
        return was;
    }

    int miss() {
        int sum = 0;
        for (int land = 0; land < 6; land++) {
            sum += size(land) > 0 ? Math.abs(size(land) - wants[land]) : 0;
        }
        return sum;
    }

    private boolean step() {
        int least = miss();
        int[] best = null;
        for (int y = 0; y < h(); y++) {
            for (int x = 0; x < w(); x++) {
                for (int land = 0; land < 6; land++) {
                    if (may(x, y, land) == 1) {
                        int was = cells[y][x];
                        cells[y][x] = land;
                        if (miss() < least) {
                            least = miss();
                            best = new int[] {x, y, land};
                        }
                        cells[y][x] = was;
                    }
                }
            }
        }
        return best != null && move(best[0], best[1], best[2]) >= 0;
    }

    int steps(int n) {
        if (!in(1, n, 64)) {
            return BAD;
        }
        int k = 0;
        while (k < n && step()) {
            k++;
        }
        return k;
    }

    int undo(int n) {
        if (!in(1, n, 100)) {
            return BAD;
        }
        int k = 0;
        while (k < n && !moves.isEmpty()) {
            int[] last = moves.remove(moves.size() - 1);
            cells[last[1]][last[0]] = last[2];
            k++;
        }
        return k;
    }

    private int far(int x, int y) {
        int land = cells[y][x];
        int far = 100;
        for (int oy = -1; oy <= h(); oy++) {
            for (int ox = -1; ox <= w(); ox++) {
                if (!on(ox, oy) || cells[oy][ox] != land) {
                    far = Math.min(far, Math.abs(x - ox) + Math.abs(y - oy));
                }
            }
        }
        return far;
    }

    int label(int land, int what) {
        if (!land(land) || !in(0, what, 2)) {
            return BAD;
        }
        int[] best = {NONE, NONE, NONE};
        for (int y = 0; y < h(); y++) {
            for (int x = 0; x < w(); x++) {
                if (cells[y][x] == land && far(x, y) > best[2]) {
                    best = new int[] {x, y, far(x, y)};
                }
            }
        }
        return best[what];
    }

    private List<Integer> peopled() {
        List<Integer> lands = new ArrayList<>();
        for (int land = 0; land < 6; land++) {
            if (size(land) > 0) {
                lands.add(land);
            }
        }
        return lands;
    }

    /** Weights of a land's box: {above its row, left in its row, its own, its row's, all}; null if there is none. */
    private long[] weights(int cuts, int land) {
        List<Integer> lands = peopled();
        if (!lands.contains(land) || cuts < 0 || cuts >= Math.pow(2, lands.size() - 1)) {
            return null;
        }
        List<List<Integer>> rows = new ArrayList<>();
        rows.add(new ArrayList<>());
        for (int k = 0; k < lands.size(); k++) {
            rows.get(rows.size() - 1).add(lands.get(k));
            if ((cuts & 1 << k) != 0) {
                rows.add(new ArrayList<>());
            }
        }
        long above = 0;
        for (List<Integer> row : rows) {
            long all = 0;
            long left = 0;
            for (int one : row) {
                left = one == land ? all : left;
                all += size(one);
            }
            if (row.contains(land)) {
                return new long[] {above, left, size(land), all, landCells()};
            }
            above += all;
        }
        return null;
    }

    /** {upper part, lower part} in least form. */
    private static long[] ratio(long[] weights) {
        long height = weights[3] * weights[3];
        long width = weights[2] * weights[4];
        long upper = Math.max(height, width);
        long lower = Math.min(height, width);
        for (long by = lower; by > 1; by--) {
            if (upper % by == 0 && lower % by == 0) {
                return new long[] {upper / by, lower / by};
            }
        }
        return new long[] {upper, lower};
    }

    int longer(int cuts, int land, int part) {
        if (!land(land) || !in(0, part, 1) || weights(cuts, land) == null) {
            return BAD;
        }
        return (int) ratio(weights(cuts, land))[part];
    }

    int box(int cuts, int land, int what) {
        if (!land(land) || !in(0, what, 3) || weights(cuts, land) == null) {
            return BAD;
        }
        long[] of = weights(cuts, land);
        long[] parts = {of[1], of[0], of[2], of[3]};
        long[] wholes = {of[3], of[4], of[3], of[4]};
        return (int) (1000 * parts[what] / wholes[what]);
    }

    int best() {
        List<Integer> lands = peopled();
        int best = NONE;
        long[] least = null;
        for (int cuts = 0; !lands.isEmpty() && cuts < 1 << lands.size() - 1; cuts++) {
            long[] greatest = {0, 1};
            for (int land : lands) {
                long[] one = ratio(weights(cuts, land));
                greatest = one[0] * greatest[1] > greatest[0] * one[1] ? one : greatest;
            }
            if (least == null || greatest[0] * least[1] < least[0] * greatest[1]) {
                least = greatest;
                best = cuts;
            }
        }
        return best;
    }

    int keep(int year) {
        if (!in(0, year, 3)) {
            return BAD;
        }
        years[year] = copy(cells);
        return landCells();
    }

    int back(int year) {
        if (!in(0, year, 3)) {
            return BAD;
        }
        if (years[year] == null) {
            return STATE;
        }
        cells = copy(years[year]);
        renew();
        return landCells();
    }

    int moved(int one, int other) {
        if (!in(0, one, 3) || !in(0, other, 3)) {
            return BAD;
        }
        int[][] a = years[one];
        int[][] b = years[other];
        if (a == null || b == null || a.length != b.length || a[0].length != b[0].length) {
            return NONE;
        }
        int n = 0;
        for (int y = 0; y < a.length; y++) {
            for (int x = 0; x < a[y].length; x++) {
                n += yes(a[y][x] != b[y][x]);
            }
        }
        return n;
    }

    int count(int what) {
        int[] counts = {w(), h(), peopled().size(), moves.size(), done};
        return in(0, what, 4) ? counts[what] : BAD;
    }

    long trace() {
        return asked;
    }
}
