/** Each promise of the document by its number: ordinary inputs, the edges that it names, wrong inputs. */
final class PromisesTest {
    private static final int BAD = -1, STATE = -2, SEA = -4, NONE = -9;
    private static final int MOST = Integer.MAX_VALUE, LEAST = Integer.MIN_VALUE;

    private PromisesTest() {
    }

    public static void main(String[] args) {
        aNewObject();
        board();
        set();
        at();
        size();
        whole();
        touch();
        kind();
        about();
        leaves();
        may();
        mayKeepsTouches();
        move();
        want();
        miss();
        steps();
        stepsTakeTheFirst();
        undo();
        undoKeepsAHundred();
        label();
        longer();
        box();
        best();
        keep();
        back();
        moved();
        count();
        trace();
        Check.end("PromisesTest");
    }

    private static void due(String call, long got, long want) {
        Check.due(call, got, want);
    }

    private static LandBoard laid(String... rows) {
        return Check.laid(rows);
    }

    private static void aNewObject() {
        LandBoard b = new LandBoard();
        Check.dueBoard("1: new", b, "....", "....", "....", "....");
        for (int land = 0; land < 6; land++) {
            due("1: kind", b.about(land, 0), 0);
            due("1: own column", b.about(land, 1), NONE);
            due("1: own row", b.about(land, 2), NONE);
            due("1: wanted", b.about(land, 3), 0);
        }
        for (int year = 0; year < 4; year++) {
            due("1: no year is kept", b.back(year), STATE);
        }
        due("1: moves kept", b.count(3), 0);
        due("1: moves done", b.count(4), 0);
        due("1: trace", b.trace(), 0);
    }

    private static void board() {
        LandBoard b = laid("01", "01");
        b.kind(0, 1, 0, 0);
        b.want(1, 7);
        b.keep(2);
        b.move(1, 1, 0);
        due("2: moves kept", b.count(3), 1);
        int[][] wrong = {{0, 4}, {4, 0}, {9, 4}, {4, 9}, {-1, 4}, {4, -1}, {MOST, 4}, {4, LEAST}};
        for (int[] one : wrong) {
            due("2: board(" + one[0] + ", " + one[1] + ")", b.board(one[0], one[1]), BAD);
        }
        Check.dueBoard("2: refused", b, "01", "00");
        due("2: refused, kind", b.about(0, 0), 1);
        due("2: refused, moves", b.count(3), 1);
        due("2: board(3, 2)", b.board(3, 2), 6);
        Check.dueBoard("2: new board", b, "...", "...");
        due("2: kind", b.about(0, 0), 0);
        due("2: own cell", b.about(0, 1), NONE);
        due("2: moves", b.count(3), 0);
        due("2: moves done stay", b.count(4), 1);
        due("2: wanted stays", b.about(1, 3), 7);
        due("2: year stays", b.back(2), 4);
        due("2: board(1, 1)", b.board(1, 1), 1);
        due("2: board(8, 8)", b.board(8, 8), 64);
        due("2: board(1, 8)", b.board(1, 8), 8);
        due("2: board(8, 1)", b.board(8, 1), 8);
    }

    private static void set() {
        LandBoard b = laid("01", "01");
        due("3: set to another", b.set(1, 0, 5), 1);
        due("3: set to sea", b.set(1, 0, SEA), 5);
        due("3: set from sea", b.set(1, 0, 0), SEA);
        Check.dueBoard("3: set", b, "00", "01");
        int[][] wrong = {{2, 0, 0}, {0, 2, 0}, {-1, 0, 0}, {0, -1, 0}, {0, 0, 6}, {0, 0, -1}, {0, 0, NONE},
            {MOST, 0, 0}, {0, LEAST, 0}, {0, 0, MOST}, {0, 0, LEAST}};
        due("3: move", b.move(0, 1, 1), 0);
        for (int[] one : wrong) {
            due("3: wrong set", b.set(one[0], one[1], one[2]), BAD);
        }
        due("3: refused, moves", b.count(3), 1);
        Check.dueBoard("3: refused", b, "00", "11");
        due("3: set to the same", b.set(0, 0, 0), 0);
        due("3: no moves are kept", b.count(3), 0);
        due("3: no moves to undo", b.undo(1), 0);
        b.kind(0, 1, 0, 0);
        due("3: set an own cell", b.set(0, 0, 1), 0);
        due("3: kind stays", b.about(0, 0), 1);
        due("3: own cell stays", b.about(0, 2), 0);
    }

    private static void at() {
        LandBoard b = laid("012", "345");
        Check.dueBoard("4: at", b, "012", "345");
        b.set(1, 1, SEA);
        due("4: at sea", b.at(1, 1), SEA);
        int[][] wrong = {{-1, 0}, {0, -1}, {3, 0}, {0, 2}, {MOST, 0}, {0, MOST}, {LEAST, LEAST}};
        for (int[] one : wrong) {
            due("4: at(" + one[0] + ", " + one[1] + ")", b.at(one[0], one[1]), BAD);
        }
    }

    private static void size() {
        LandBoard b = laid("0011", "0.15");
        due("5: size(0)", b.size(0), 3);
        due("5: size(1)", b.size(1), 3);
        due("5: size(5)", b.size(5), 1);
        due("5: size(2)", b.size(2), 0);
        for (int land : new int[] {-1, 6, SEA, MOST, LEAST}) {
            due("5: size(" + land + ")", b.size(land), BAD);
        }
    }

    private static void whole() {
        LandBoard b = laid("00.1", "0.12", "0332", "0440");
        due("6: whole(0)", b.whole(0), 0);
        due("6: corners do not join", b.whole(1), 0);
        due("6: whole(2)", b.whole(2), 1);
        due("6: whole(3)", b.whole(3), 1);
        due("6: whole(5) without a cell", b.whole(5), 0);
        for (int land : new int[] {-1, 6, SEA, MOST, LEAST}) {
            due("6: whole(" + land + ")", b.whole(land), BAD);
        }
        due("6: the board's sides do not join", laid("0110", "1111").whole(0), 0);
        due("6: rows' ends do not join", laid("11111110", "01111111").whole(0), 0);
        due("6: a snake", laid("00000000", "1111111.", "11111111", "0.......", "00000000").whole(0), 0);
        due("6: a longer snake", laid("00000000", "11111110", "00000000", "01111111", "00000000", "11111110",
            "00000000", "0.......").whole(0), 1);
    }

    private static void touch() {
        LandBoard b = laid("00000", "01120", "01420", "03340", "00000");
        due("7: side by side", b.touch(1, 2), 1);
        due("7: either way", b.touch(2, 1), 1);
        due("7: one over the other", b.touch(1, 3), 1);
        due("7: corners do not touch", b.touch(2, 3), 0);
        due("7: the edge is sea", b.touch(0, SEA), 1);
        due("7: the edge is sea, either way", b.touch(SEA, 0), 1);
        due("7: within", b.touch(1, SEA), 0);
        due("7: within, either way", b.touch(SEA, 1), 0);
        due("7: no cells", b.touch(5, 0), 0);
        due("7: no cells at sea", b.touch(5, SEA), 0);
        b.set(2, 2, SEA);
        due("7: a lake", b.touch(3, SEA), 1);
        due("7: a lake, either way", b.touch(SEA, 2), 1);
        int[][] wrong = {{0, 0}, {5, 5}, {SEA, SEA}, {-1, 0}, {0, -1}, {6, 0}, {0, 6}, {SEA, 6}, {6, SEA},
            {MOST, LEAST}};
        for (int[] one : wrong) {
            due("7: touch(" + one[0] + ", " + one[1] + ")", b.touch(one[0], one[1]), BAD);
        }
    }

    private static void kind() {
        LandBoard b = laid("001", "011");
        due("8: home", b.kind(0, 1, 1, 0), 1);
        due("8: home, kind", b.about(0, 0), 1);
        due("8: home, column", b.about(0, 1), 1);
        due("8: home, row", b.about(0, 2), 0);
        due("8: shore", b.kind(0, 2, 0, 1), 1);
        due("8: shore, kind", b.about(0, 0), 2);
        due("8: shore, column", b.about(0, 1), 0);
        due("8: shore, row", b.about(0, 2), 1);
        due("8: another's cell", b.kind(0, 1, 2, 0), STATE);
        due("8: another's cell, shore", b.kind(0, 2, 2, 0), STATE);
        due("8: no cells", b.kind(4, 1, 0, 0), STATE);
        int[][] wrong = {{-1, 0, 0, 0}, {6, 0, 0, 0}, {SEA, 0, 0, 0}, {0, -1, 0, 0}, {0, 3, 0, 0}, {0, 1, 3, 0},
            {0, 1, 0, 2}, {0, 2, -1, 0}, {0, 2, 0, -1}, {MOST, LEAST, 0, 0}, {4, 3, 0, 0}, {4, 1, 3, 0}};
        for (int[] one : wrong) {
            due("8: wrong kind", b.kind(one[0], one[1], one[2], one[3]), BAD);
        }
        due("8: refused, kind", b.about(0, 0), 2);
        due("8: refused, row", b.about(0, 2), 1);
        due("8: land, any cell", b.kind(0, 0, -5, 99), 1);
        due("8: land, kind", b.about(0, 0), 0);
        due("8: land, column", b.about(0, 1), NONE);
        due("8: land, row", b.about(0, 2), NONE);
        due("8: kind keeps moves", b.move(1, 0, 1), 0);
        b.kind(1, 1, 2, 0);
        due("8: kind keeps moves", b.count(3), 1);
    }

    private static void about() {
        LandBoard b = laid("0000", "0110");
        b.kind(1, 2, 2, 1);
        b.want(1, 64);
        int[] dues = {2, 2, 1, 64};
        for (int what = 0; what < 4; what++) {
            due("9: about(1, " + what + ")", b.about(1, what), dues[what]);
        }
        for (int[] one : new int[][] {{-1, 0}, {6, 0}, {SEA, 3}, {0, -1}, {0, 4}, {MOST, 0}, {0, MOST}, {0, LEAST}}) {
            due("9: about(" + one[0] + ", " + one[1] + ")", b.about(one[0], one[1]), BAD);
        }
    }

    private static void leaves() {
        LandBoard b = laid("0001", "2.01", "2221");
        due("10: an end", b.leaves(0, 0), 1);
        due("10: a middle", b.leaves(1, 0), 0);
        due("10: a corner between", b.leaves(2, 0), 0);
        b.kind(0, 1, 0, 0);
        due("10: home, its own cell", b.leaves(0, 0), 0);
        due("10: home, another cell", b.leaves(2, 1), 1);
        due("10: home, not whole", b.leaves(1, 0), 0);
        b.kind(0, 2, 0, 0);
        due("10: shore, its own cell", b.leaves(0, 0), 0);
        due("10: shore, sea stays", b.leaves(2, 1), 1);
        for (int[] one : new int[][] {{1, 1}, {-1, 0}, {0, -1}, {4, 0}, {0, 3}, {MOST, MOST}, {LEAST, 0}}) {
            due("10: leaves(" + one[0] + ", " + one[1] + ")", b.leaves(one[0], one[1]), BAD);
        }
        due("10: the last cell", laid("01").leaves(0, 0), 0);
        due("10: what was apart becomes whole", laid("0.00").leaves(0, 0), 1);
        leavesTheShore();
    }

    private static void leavesTheShore() {
        LandBoard b = laid("1111", "1001", "1011", "1111");
        b.set(1, 0, 0);
        due("10: land, without its shore", b.leaves(1, 0), 1);
        b.kind(0, 1, 1, 1);
        due("10: home, without its shore", b.leaves(1, 0), 1);
        b.kind(0, 2, 1, 1);
        due("10: shore, without its shore", b.leaves(1, 0), 0);
        due("10: shore, with its shore", b.leaves(1, 2), 1);
        b.set(2, 2, SEA);
        due("10: shore, at a lake", b.leaves(1, 0), 1);
        LandBoard inner = laid("1111", "1001", "1001", "1111");
        inner.kind(0, 2, 1, 1);
        due("10: shore, that has none", inner.leaves(2, 2), 0);
    }

    private static void may() {
        LandBoard b = laid("001", "011", "222");
        due("11: may", b.may(1, 0, 1), 1);
        due("11: its own", b.may(1, 0, 0), 0);
        due("11: not beside", b.may(0, 0, 1), 0);
        due("11: only at the corner", laid("001", "111", "222").may(1, 0, 2), 0);
        due("11: a land without cells", b.may(1, 0, 5), 0);
        b.kind(0, 1, 1, 0);
        due("11: its home", b.may(1, 0, 1), 0);
        due("11: not its home", b.may(0, 1, 2), 1);
        b.kind(0, 0, 0, 0);
        due("11: it becomes not whole", laid("000", "111").may(1, 0, 1), 0);
        due("11: the last cell", laid("01").may(0, 0, 1), 0);
        due("11: sea", laid(".0", "00").may(0, 0, 0), 0);
        int[][] wrong = {{-1, 0, 0}, {0, -1, 0}, {3, 0, 0}, {0, 3, 0}, {0, 0, -1}, {0, 0, 6}, {0, 0, SEA},
            {MOST, 0, 0}, {0, LEAST, 0}, {0, 0, MOST}};
        for (int[] one : wrong) {
            due("11: wrong may", b.may(one[0], one[1], one[2]), BAD);
        }
        Check.dueBoard("11: may changes nothing", b, "001", "011", "222");
    }

    private static void mayKeepsTouches() {
        due("11: touches stay by other cells", laid("012", "112", "111").may(2, 1, 1), 1);
        due("11: a touch of two others would end", laid("0022", "0132", "1133").may(1, 1, 0), 0);
        due("11: only a touch of 0 and 1 would end", laid("113", "103", "200").may(1, 1, 3), 0);
        due("11: only a touch of 1 and 2 would begin", laid("102", "002").may(1, 0, 1), 0);
        due("11: lands that touch would part", laid("0012", "0112", "3333").may(2, 0, 0), 0);
        due("11: lands that touch stay so", laid("0012", "0012", "3333").may(1, 0, 2), 0);
        due("11: a new touch of the one that gets", laid("001", "011", "233").may(1, 1, 0), 0);
        due("11: the sea would be lost", laid("1111", "1001", "1011").may(1, 2, 1), 0);
        due("11: the sea stays away", laid("00000", "00000", "01120", "00000", "00000").may(2, 1, 1), 1);
        due("11: the edge would be won", laid("0000", "0110", "0000").may(1, 0, 1), 0);
        due("11: a lake would be won", laid("000000", "011.00", "000000", "000000").may(2, 1, 0), 0);
        due("11: a lake stays", laid("000000", "011.00", "000000", "000000").may(1, 1, 0), 1);
    }

    private static void move() {
        LandBoard b = laid("001", "011", "222");
        due("12: move", b.move(1, 0, 1), 0);
        Check.dueBoard("12: moved", b, "011", "011", "222");
        due("12: kept", b.count(3), 1);
        due("12: done", b.count(4), 1);
        due("12: may not", b.move(0, 0, 0), STATE);
        due("12: not beside", b.move(2, 0, 2), STATE);
        due("12: no such touch", b.move(0, 0, 5), STATE);
        due("12: sea", laid(".0", "00").move(0, 0, 0), STATE);
        int[][] wrong = {{-1, 0, 0}, {0, -1, 0}, {3, 0, 0}, {0, 3, 0}, {0, 0, -1}, {0, 0, 6}, {0, 0, SEA},
            {MOST, 0, 0}, {0, LEAST, 0}, {0, 0, MOST}};
        for (int[] one : wrong) {
            due("12: wrong move", b.move(one[0], one[1], one[2]), BAD);
        }
        Check.dueBoard("12: refused", b, "011", "011", "222");
        due("12: refused, kept", b.count(3), 1);
        due("12: refused, done", b.count(4), 1);
    }

    private static void want() {
        LandBoard b = new LandBoard();
        due("13: want(0, 64)", b.want(0, 64), 0);
        due("13: want(0, 0)", b.want(0, 0), 64);
        due("13: want(5, 3)", b.want(5, 3), 0);
        int[][] wrong = {{-1, 0}, {6, 0}, {SEA, 0}, {0, -1}, {0, 65}, {0, MOST}, {0, LEAST}, {MOST, 0}};
        for (int[] one : wrong) {
            due("13: want(" + one[0] + ", " + one[1] + ")", b.want(one[0], one[1]), BAD);
        }
        due("13: refused", b.about(0, 3), 0);
        due("13: want(5, 3) again", b.want(5, 3), 3);
        due("13: want(0, 1)", b.want(0, 1), 0);
    }

    private static void miss() {
        LandBoard b = laid("00.", "011");
        due("14: nothing is wanted", b.miss(), 5);
        b.want(0, 5);
        due("14: too few", b.miss(), 4);
        b.want(1, 1);
        due("14: too many", b.miss(), 3);
        b.want(4, 60);
        due("14: one without cells counts not", b.miss(), 3);
        b.want(0, 3);
        b.want(1, 2);
        due("14: none", b.miss(), 0);
        due("14: no lands", new LandBoard().miss(), 0);
    }

    private static void steps() {
        LandBoard b = laid("000111", "000111");
        b.want(0, 2);
        b.want(1, 10);
        due("15: one", b.steps(1), 1);
        Check.dueBoard("15: one", b, "001111", "000111");
        due("15: miss", b.miss(), 6);
        due("15: the others", b.steps(64), 3);
        due("15: miss", b.miss(), 0);
        due("15: none is left", b.steps(64), 0);
        due("15: kept", b.count(3), 4);
        due("15: done", b.count(4), 4);
        for (int n : new int[] {0, -1, 65, MOST, LEAST}) {
            due("15: steps(" + n + ")", b.steps(n), BAD);
        }
        LandBoard none = laid("0011");
        none.want(0, 3);
        none.want(1, 3);
        due("15: miss would stay", none.steps(5), 0);
        due("15: no lands", new LandBoard().steps(64), 0);
        LandBoard exact = laid("0011");
        exact.want(0, 2);
        exact.want(1, 4);
        due("15: what one wins, the other loses", exact.steps(5), 0);
        LandBoard home = laid("0011");
        home.want(1, 4);
        home.kind(0, 1, 1, 0);
        due("15: home stays", home.steps(5), 0);
    }

    private static void stepsTakeTheFirst() {
        LandBoard rows = laid("0001", "0001", "2222");
        rows.want(0, 4);
        rows.want(1, 4);
        rows.want(2, 4);
        due("15: by rows", rows.steps(1), 1);
        Check.dueBoard("15: the first cell by rows", rows, "0011", "0001", "2222");
        LandBoard lands = laid("0000", "2001", "2201", "2211");
        lands.want(0, 6);
        lands.want(1, 5);
        lands.want(2, 6);
        due("15: by lands", lands.steps(1), 1);
        Check.dueBoard("15: the first cell, the least land that may", lands, "2000", "2001", "2201", "2211");
        LandBoard both = laid("0211", "0211", "0222", "0011");
        due("15: it may go to two lands", both.may(1, 0, 0) + both.may(1, 0, 1), 2);
        both.want(0, 9);
        both.want(1, 9);
        both.want(2, 1);
        due("15: two lands", both.steps(1), 1);
        Check.dueBoard("15: the least of two lands", both, "0011", "0211", "0222", "0011");
        LandBoard needs = laid("0211", "0211", "0222", "0011");
        needs.want(1, 9);
        needs.want(2, 1);
        due("15: the one land", needs.steps(1), 1);
        Check.dueBoard("15: the land whose miss becomes less", needs, "0111", "0211", "0222", "0011");
    }

    private static void undo() {
        LandBoard b = laid("0001", "0001", "2222");
        due("16: nothing to undo", b.undo(100), 0);
        b.move(2, 0, 1);
        b.move(2, 1, 1);
        b.move(0, 1, 2);
        Check.dueBoard("16: moved", b, "0011", "2011", "2222");
        for (int n : new int[] {0, -1, 101, MOST, LEAST}) {
            due("16: undo(" + n + ")", b.undo(n), BAD);
        }
        due("16: the latest", b.undo(1), 1);
        Check.dueBoard("16: the latest", b, "0011", "0011", "2222");
        due("16: kept", b.count(3), 2);
        due("16: done", b.count(4), 3);
        due("16: more than there are", b.undo(100), 2);
        Check.dueBoard("16: all", b, "0001", "0001", "2222");
        due("16: none is kept", b.count(3), 0);
        due("16: none is left", b.undo(1), 0);
        b.want(0, 5);
        b.want(1, 3);
        b.want(2, 4);
        due("16: a step", b.steps(64), 1);
        due("16: a step is a move", b.undo(2), 1);
        Check.dueBoard("16: a step", b, "0001", "0001", "2222");
    }

    /** A cell goes to and fro: a hundred and one moves, an odd number, and a hundred come back. */
    private static void undoKeepsAHundred() {
        LandBoard b = laid("0001", "0001");
        for (int k = 0; k < 100; k++) {
            due("16: to and fro", b.move(2, 0, k % 2 == 0 ? 1 : 0), k % 2);
        }
        due("16: a hundred are kept", b.count(3), 100);
        due("16: one more", b.move(2, 0, 1), 0);
        due("16: a hundred are kept still", b.count(3), 100);
        due("16: a hundred and one are done", b.count(4), 101);
        due("16: a hundred come back", b.undo(100), 100);
        Check.dueBoard("16: all but the first", b, "0011", "0001");
        due("16: no more", b.undo(1), 0);
        b.move(2, 1, 1);
        due("16: again", b.undo(100), 1);
        Check.dueBoard("16: again", b, "0011", "0001");
    }

    private static void label() {
        LandBoard b = laid("00000.", "00000.", "00000.", "00000.", "00000.", "111112");
        due("17: column", b.label(0, 0), 2);
        due("17: row", b.label(0, 1), 2);
        due("17: how far", b.label(0, 2), 3);
        due("17: a line's first", b.label(1, 0), 0);
        due("17: a line's row", b.label(1, 1), 5);
        due("17: a line", b.label(1, 2), 1);
        due("17: one cell", b.label(2, 0), 5);
        due("17: one cell, far", b.label(2, 2), 1);
        for (int what = 0; what < 3; what++) {
            due("17: no cells", b.label(3, what), NONE);
        }
        for (int[] one : new int[][] {{-1, 0}, {6, 0}, {SEA, 0}, {0, -1}, {0, 3}, {3, 3}, {MOST, 0}, {0, LEAST}}) {
            due("17: label(" + one[0] + ", " + one[1] + ")", b.label(one[0], one[1]), BAD);
        }
        b.set(2, 2, 3);
        due("17: the first of some, column", b.label(0, 0), 1);
        due("17: the first of some, row", b.label(0, 1), 1);
        due("17: the first of some, far", b.label(0, 2), 2);
        LandBoard full = laid("00000000", "00000000", "00000000", "00000000", "00000000", "00000000", "00000000",
            "00000000");
        due("17: the full board, column", full.label(0, 0), 3);
        due("17: the full board, row", full.label(0, 1), 3);
        due("17: the full board, far", full.label(0, 2), 4);
        LandBoard apart = laid("0000000", "..00000", "0.00000");
        due("17: of two pieces, column", apart.label(0, 0), 3);
        due("17: of two pieces, row", apart.label(0, 1), 1);
        due("17: of two pieces, far", apart.label(0, 2), 2);
    }

    private static void longer() {
        LandBoard b = laid("00011", "33333");
        due("18: one row, upper", b.longer(0, 0, 0), 10);
        due("18: one row, lower", b.longer(0, 0, 1), 3);
        due("18: two and one, upper", b.longer(2, 1, 0), 5);
        due("18: two and one, lower", b.longer(2, 1, 1), 4);
        due("18: wider, upper", b.longer(2, 0, 0), 6);
        due("18: wider, lower", b.longer(2, 0, 1), 5);
        due("18: alone, upper", b.longer(2, 3, 0), 2);
        due("18: alone, lower", b.longer(2, 3, 1), 1);
        due("18: three rows, upper", b.longer(3, 1, 0), 5);
        due("18: three rows, lower", b.longer(3, 1, 1), 1);
        due("18: a square, upper", laid("4").longer(0, 4, 0), 1);
        due("18: a square, lower", laid("4").longer(0, 4, 1), 1);
        int[][] wrong = {{-1, 0, 0}, {4, 0, 0}, {LEAST, 0, 0}, {MOST, 0, 0}, {0, 2, 0}, {0, 6, 0}, {0, -1, 0},
            {0, SEA, 0}, {0, 0, -1}, {0, 0, 2}, {0, MOST, MOST}};
        for (int[] one : wrong) {
            due("18: wrong longer", b.longer(one[0], one[1], one[2]), BAD);
        }
        due("18: no bit for one land", laid("00").longer(1, 0, 0), BAD);
        due("18: no lands", new LandBoard().longer(0, 0, 0), BAD);
        LandBoard six = laid("012345");
        due("18: all bits of six", six.longer(31, 5, 0), 6);
        due("18: more bits than six", six.longer(32, 5, 0), BAD);
    }

    private static void box() {
        LandBoard b = laid("00011", "44444", "5....");
        int[][] dues = {{0, 0, 600, 454}, {600, 0, 400, 454}, {0, 454, 833, 545}, {833, 454, 166, 545}};
        int[] lands = {0, 1, 4, 5};
        for (int k = 0; k < 4; k++) {
            for (int what = 0; what < 4; what++) {
                due("19: box(2, " + lands[k] + ", " + what + ")", b.box(2, lands[k], what), dues[k][what]);
            }
        }
        due("19: three rows, upper side", b.box(5, 5, 1), 909);
        due("19: three rows, width", b.box(5, 5, 2), 1000);
        due("19: three rows, within a row", b.box(5, 4, 0), 285);
        int[][] wrong = {{-1, 0, 0}, {8, 0, 0}, {LEAST, 0, 0}, {MOST, 0, 0}, {0, 2, 0}, {0, 6, 0}, {0, -1, 0},
            {0, SEA, 0}, {0, 0, -1}, {0, 0, 4}, {0, MOST, MOST}};
        for (int[] one : wrong) {
            due("19: wrong box", b.box(one[0], one[1], one[2]), BAD);
        }
        due("19: no bit for one land", laid("00").box(1, 0, 0), BAD);
        due("19: no lands", new LandBoard().box(0, 0, 0), BAD);
    }

    private static void best() {
        due("20: no lands", new LandBoard().best(), NONE);
        due("20: one", laid("33").best(), 0);
        due("20: two alike, one row as good as two", laid("01").best(), 0);
        due("20: four alike", laid("0235").best(), 2);
        due("20: two and one", laid("0012").best(), 1);
        due("20: one and two", laid("01", "22").best(), 2);
        due("20: six alike", laid("012345").best(), 4);
    }

    private static void keep() {
        LandBoard b = laid("01.", "0..");
        due("21: keep(0)", b.keep(0), 3);
        b.set(2, 1, 5);
        due("21: keep(3)", b.keep(3), 4);
        due("21: they are two", b.moved(0, 3), 1);
        due("21: kept anew", b.keep(0), 4);
        due("21: kept anew", b.moved(0, 3), 0);
        due("21: no land", new LandBoard().keep(1), 0);
        due("21: moves stay", b.count(3), 0);
        LandBoard moves = laid("001", "011");
        moves.move(1, 0, 1);
        moves.keep(1);
        due("21: moves stay", moves.count(3), 1);
        for (int year : new int[] {-1, 4, MOST, LEAST}) {
            due("21: keep(" + year + ")", b.keep(year), BAD);
        }
    }

    private static void back() {
        LandBoard b = laid("001", "01.");
        b.keep(1);
        b.kind(0, 1, 0, 0);
        b.want(0, 9);
        b.move(1, 0, 1);
        due("22: not kept", b.back(0), STATE);
        for (int year : new int[] {-1, 4, MOST, LEAST}) {
            due("22: back(" + year + ")", b.back(year), BAD);
        }
        due("22: refused, kind", b.about(0, 0), 1);
        due("22: refused, moves", b.count(3), 1);
        due("22: back(1)", b.back(1), 5);
        Check.dueBoard("22: back", b, "001", "01.");
        due("22: kind", b.about(0, 0), 0);
        due("22: own cell", b.about(0, 1), NONE);
        due("22: wanted stays", b.about(0, 3), 9);
        due("22: no moves", b.count(3), 0);
        due("22: moves done", b.count(4), 1);
        Check.lay(b, "2");
        due("22: another size", b.back(1), 5);
        Check.dueBoard("22: another size", b, "001", "01.");
        due("22: the edge is the kept board's", b.touch(1, SEA), 1);
        b.set(0, 0, 5);
        due("22: the year stays", b.back(1), 5);
        due("22: the year stays", b.at(0, 0), 0);
    }

    private static void moved() {
        LandBoard b = laid("01.", "01.");
        b.keep(0);
        due("23: the same one", b.moved(0, 0), 0);
        due("23: one not kept", b.moved(0, 2), NONE);
        due("23: the other not kept", b.moved(2, 0), NONE);
        due("23: neither kept", b.moved(3, 3), NONE);
        b.set(0, 0, 1);
        b.set(2, 0, 3);
        b.set(1, 1, SEA);
        b.keep(2);
        due("23: moved(0, 2)", b.moved(0, 2), 3);
        due("23: moved(2, 0)", b.moved(2, 0), 3);
        Check.lay(b, "00", "00", "00");
        b.keep(1);
        due("23: as many cells, other sides", b.moved(0, 1), NONE);
        Check.lay(b, "00", "0.");
        b.keep(0);
        due("23: the same columns, other rows", b.moved(0, 1), NONE);
        Check.lay(b, "0.", "00");
        b.keep(1);
        due("23: land 0 and sea", b.moved(0, 1), 2);
        Check.lay(b, "00.", "0..");
        b.keep(0);
        due("23: the same rows, other columns", b.moved(0, 1), NONE);
        for (int[] one : new int[][] {{-1, 0}, {0, -1}, {4, 0}, {0, 4}, {3, 4}, {MOST, LEAST}}) {
            due("23: moved(" + one[0] + ", " + one[1] + ")", b.moved(one[0], one[1]), BAD);
        }
    }

    private static void count() {
        LandBoard b = laid("00011", "0.113");
        b.move(2, 0, 1);
        b.move(2, 0, 0);
        b.undo(1);
        int[] dues = {5, 2, 3, 1, 2};
        for (int what = 0; what < 5; what++) {
            due("24: count(" + what + ")", b.count(what), dues[what]);
        }
        for (int what : new int[] {-1, 5, MOST, LEAST}) {
            due("24: count(" + what + ")", b.count(what), BAD);
        }
    }

    private static void trace() {
        LandBoard b = laid("000111", "0.0111");
        b.leaves(0, 0);
        due("25: land", b.trace(), 1);
        b.kind(1, 1, 3, 0);
        b.leaves(4, 0);
        due("25: home", b.trace(), 12);
        b.leaves(3, 0);
        due("25: home, its own cell", b.trace(), 23);
        b.kind(0, 2, 0, 0);
        b.leaves(1, 0);
        due("25: shore, not whole", b.trace(), 134);
        b.leaves(1, 1);
        b.leaves(6, 0);
        due("25: what is refused asks no body", b.trace(), 134);
        b.may(2, 1, 1);
        b.move(2, 1, 1);
        b.want(1, 9);
        b.steps(9);
        b.undo(9);
        due("25: only leaves() asks", b.trace(), 134);
        b.board(2, 2);
        due("25: it stays over boards", b.trace(), 134);
    }
}
