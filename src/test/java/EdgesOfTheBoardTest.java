import java.util.function.ToLongFunction;

/** Promises 1 to 9: each edge that the document names, and each refused call, a test of its own. */
final class EdgesOfTheBoardTest {
    private static final int BAD = Edges.BAD, STATE = Edges.STATE, SEA = Edges.SEA, NONE = Edges.NONE;
    private static final int MOST = Edges.MOST, LEAST = Edges.LEAST;

    private EdgesOfTheBoardTest() {
    }

    public static void main(String[] args) throws IllegalAccessException {
        Edges.runAll(EdgesOfTheBoardTest.class, 1, 9);
    }

    private static void due(String call, long got, long want) {
        Check.due(call, got, want);
    }

    // ---- promise 1: a new object

    static void promise1_isFourByFour() {
        due("count(0)", new LandBoard().count(0), 4);
        due("count(1)", new LandBoard().count(1), 4);
    }

    static void promise1_isAllSea() {
        Check.dueBoard("new", new LandBoard(), "....", "....", "....", "....");
    }

    static void promise1_hasNoFifthColumn() {
        due("at(4, 3)", new LandBoard().at(4, 3), BAD);
    }

    static void promise1_hasNoFifthRow() {
        due("at(3, 4)", new LandBoard().at(3, 4), BAD);
    }

    static void promise1_itsLandsAreEmpty() {
        LandBoard b = new LandBoard();
        for (int land = 0; land < 6; land++) {
            due("size", b.size(land), 0);
            due("whole", b.whole(land), 0);
            due("touch the sea", b.touch(land, SEA), 0);
            due("label", b.label(land, 0), NONE);
        }
        due("count(2)", b.count(2), 0);
    }

    static void promise1_itsLandsAreOfTheFirstKind() {
        LandBoard b = new LandBoard();
        for (int land = 0; land < 6; land++) {
            due("about(" + land + ", 0)", b.about(land, 0), 0);
        }
    }

    static void promise1_noLandHasAnOwnCell() {
        LandBoard b = new LandBoard();
        for (int land = 0; land < 6; land++) {
            due("about(" + land + ", 1)", b.about(land, 1), NONE);
            due("about(" + land + ", 2)", b.about(land, 2), NONE);
        }
    }

    static void promise1_nothingIsWanted() {
        LandBoard b = new LandBoard();
        for (int land = 0; land < 6; land++) {
            due("about(" + land + ", 3)", b.about(land, 3), 0);
        }
        due("miss()", b.miss(), 0);
    }

    static void promise1_noMovesAreKeptOrDone() {
        LandBoard b = new LandBoard();
        due("count(3)", b.count(3), 0);
        due("count(4)", b.count(4), 0);
        due("undo(100)", b.undo(100), 0);
    }

    static void promise1_noYearIsKept() {
        LandBoard b = new LandBoard();
        for (int year = 0; year < 4; year++) {
            due("back(" + year + ")", b.back(year), STATE);
            due("moved(" + year + ", " + year + ")", b.moved(year, year), NONE);
        }
    }

    static void promise1_traceIsNought() {
        due("trace()", new LandBoard().trace(), 0);
    }

    static void promise1_twoObjectsAreApart() {
        LandBoard one = Edges.busy();
        LandBoard other = new LandBoard();
        String before = Edges.seen(other);
        one.set(0, 0, 5);
        one.keep(1);
        one.leaves(3, 3);
        Check.due("the other", Edges.seen(other), before);
        due("the other's back(1)", other.back(1), STATE);
        due("the other's trace()", other.trace(), 0);
    }

    /** An object behind 511 calls: its board is as laid, 498 moves are done, the year 2 is kept. */
    private static LandBoard late() {
        LandBoard b = Check.laid("0001", "0001");
        b.kind(0, 1, 0, 0);
        b.want(0, 3);
        b.want(1, 5);
        b.keep(2);
        for (int calls = 13; calls < 511; calls++) {
            b.move(2, 0, calls % 2);
        }
        return b;
    }

    private static void dueLate(String call, long due, ToLongFunction<LandBoard> asked) {
        due("behind 511 calls " + call, asked.applyAsLong(late()), due);
    }

    static void promise1_theLastOf512CallsToTheBoard() {
        dueLate("board(8, 8)", 64, b -> b.board(8, 8));
        dueLate("set(3, 1, 5)", 1, b -> b.set(3, 1, 5));
        dueLate("at(2, 0)", 0, b -> b.at(2, 0));
        dueLate("size(0)", 6, b -> b.size(0));
        dueLate("whole(0)", 1, b -> b.whole(0));
        dueLate("touch(0, 1)", 1, b -> b.touch(0, 1));
        dueLate("kind(1, 2, 3, 0)", 1, b -> b.kind(1, 2, 3, 0));
        dueLate("about(0, 3)", 3, b -> b.about(0, 3));
    }

    static void promise1_theLastOf512CallsToMoves() {
        dueLate("leaves(0, 0)", 0, b -> b.leaves(0, 0));
        dueLate("may(2, 0, 1)", 1, b -> b.may(2, 0, 1));
        dueLate("move(2, 0, 1)", 0, b -> b.move(2, 0, 1));
        dueLate("want(1, 9)", 5, b -> b.want(1, 9));
        dueLate("miss()", 6, LandBoard::miss);
        dueLate("steps(64)", 3, b -> b.steps(64));
        dueLate("undo(100)", 100, b -> b.undo(100));
        dueLate("label(1, 0)", 3, b -> b.label(1, 0));
    }

    static void promise1_theLastOf512CallsToBoxesAndYears() {
        dueLate("longer(1, 0, 0)", 4, b -> b.longer(1, 0, 0));
        dueLate("box(0, 1, 0)", 750, b -> b.box(0, 1, 0));
        dueLate("best()", 0, LandBoard::best);
        dueLate("keep(0)", 8, b -> b.keep(0));
        dueLate("back(2)", 8, b -> b.back(2));
        dueLate("moved(2, 2)", 0, b -> b.moved(2, 2));
        dueLate("count(4)", 498, b -> b.count(4));
        dueLate("trace()", 0, LandBoard::trace);
    }

    // ---- promise 2: board

    static void promise2_noColumns() {
        Edges.bad("board(0, 4)", b -> b.board(0, 4));
    }

    static void promise2_fewerThanNoColumns() {
        Edges.bad("board(-1, 4)", b -> b.board(-1, 4));
        Edges.bad("board(least, 4)", b -> b.board(LEAST, 4));
    }

    static void promise2_nineColumns() {
        Edges.bad("board(9, 4)", b -> b.board(9, 4));
        Edges.bad("board(most, 4)", b -> b.board(MOST, 4));
    }

    static void promise2_noRows() {
        Edges.bad("board(5, 0)", b -> b.board(5, 0));
    }

    static void promise2_fewerThanNoRows() {
        Edges.bad("board(5, -1)", b -> b.board(5, -1));
        Edges.bad("board(5, least)", b -> b.board(5, LEAST));
    }

    static void promise2_nineRows() {
        Edges.bad("board(5, 9)", b -> b.board(5, 9));
        Edges.bad("board(5, most)", b -> b.board(5, MOST));
    }

    static void promise2_columnsAndRowsWrong() {
        Edges.bad("board(-2, -2)", b -> b.board(-2, -2));
        Edges.bad("board(9, 9)", b -> b.board(9, 9));
        Edges.bad("board(65536, 65536)", b -> b.board(65536, 65536));
    }

    static void promise2_oneByOne() {
        LandBoard b = new LandBoard();
        due("board(1, 1)", b.board(1, 1), 1);
        Check.dueBoard("board(1, 1)", b, ".");
        due("at(1, 0)", b.at(1, 0), BAD);
        due("at(0, 1)", b.at(0, 1), BAD);
    }

    static void promise2_eightByEight() {
        LandBoard b = new LandBoard();
        due("board(8, 8)", b.board(8, 8), 64);
        due("at(7, 7)", b.at(7, 7), SEA);
        due("at(8, 7)", b.at(8, 7), BAD);
        due("at(7, 8)", b.at(7, 8), BAD);
    }

    static void promise2_eightByOne() {
        LandBoard b = new LandBoard();
        due("board(8, 1)", b.board(8, 1), 8);
        Check.dueBoard("board(8, 1)", b, "........");
        due("at(0, 1)", b.at(0, 1), BAD);
    }

    static void promise2_oneByEight() {
        LandBoard b = new LandBoard();
        due("board(1, 8)", b.board(1, 8), 8);
        Check.dueBoard("board(1, 8)", b, ".", ".", ".", ".", ".", ".", ".", ".");
        due("at(1, 0)", b.at(1, 0), BAD);
    }

    static void promise2_columnsAreNotRows() {
        LandBoard b = new LandBoard();
        due("board(3, 2)", b.board(3, 2), 6);
        due("count(0)", b.count(0), 3);
        due("count(1)", b.count(1), 2);
    }

    static void promise2_aBoardOfTheSameSizeIsNew() {
        LandBoard b = Edges.busy();
        due("board(5, 4)", b.board(5, 4), 20);
        Check.dueBoard("board(5, 4)", b, ".....", ".....", ".....", ".....");
    }

    static void promise2_aFullBoardBecomesSea() {
        LandBoard b = Edges.full(3);
        due("board(8, 8)", b.board(8, 8), 64);
        due("size(3)", b.size(3), 0);
        due("count(2)", b.count(2), 0);
    }

    static void promise2_whatWasCutOffDoesNotComeBack() {
        LandBoard b = Check.laid("000", "000", "000");
        b.board(2, 2);
        b.board(3, 3);
        Check.dueBoard("board(3, 3)", b, "...", "...", "...");
        due("size(0)", b.size(0), 0);
    }

    static void promise2_kindsAreTheFirst() {
        LandBoard b = Edges.busy();
        b.board(5, 4);
        for (int land = 0; land < 6; land++) {
            due("about(" + land + ", 0)", b.about(land, 0), 0);
            due("about(" + land + ", 1)", b.about(land, 1), NONE);
            due("about(" + land + ", 2)", b.about(land, 2), NONE);
        }
    }

    static void promise2_noMovesAreKept() {
        LandBoard b = Edges.busy();
        b.board(5, 4);
        due("count(3)", b.count(3), 0);
        due("undo(1)", b.undo(1), 0);
        Check.dueBoard("undo(1)", b, ".....", ".....", ".....", ".....");
    }

    static void promise2_movesDoneStay() {
        LandBoard b = Edges.busy();
        b.board(1, 1);
        due("count(4)", b.count(4), 3);
    }

    static void promise2_yearsStay() {
        LandBoard b = Edges.busy();
        b.board(8, 8);
        due("moved(0, 2)", b.moved(0, 2), 1);
        due("back(1)", b.back(1), STATE);
        due("back(0)", b.back(0), 18);
        due("at(4, 3)", b.at(4, 3), 3);
    }

    static void promise2_wantedStays() {
        LandBoard b = Edges.busy();
        b.board(8, 8);
        int[] wants = {4, 5, 6, 3, 0, 64};
        for (int land = 0; land < 6; land++) {
            due("about(" + land + ", 3)", b.about(land, 3), wants[land]);
        }
    }

    // ---- promise 3: set

    static void promise3_columnTooSmall() {
        Edges.bad("set(-1, 0, 0)", b -> b.set(-1, 0, 0));
        Edges.bad("set(-1, 1, 0)", b -> b.set(-1, 1, 0));
        Edges.bad("set(least, 0, 0)", b -> b.set(LEAST, 0, 0));
    }

    static void promise3_columnTooLarge() {
        Edges.bad("set(5, 0, 0)", b -> b.set(5, 0, 0));
        Edges.bad("set(most, 0, 0)", b -> b.set(MOST, 0, 0));
    }

    static void promise3_rowTooSmall() {
        Edges.bad("set(0, -1, 0)", b -> b.set(0, -1, 0));
        Edges.bad("set(0, least, 0)", b -> b.set(0, LEAST, 0));
    }

    static void promise3_rowTooLarge() {
        Edges.bad("set(0, 4, 0)", b -> b.set(0, 4, 0));
        Edges.bad("set(0, most, 0)", b -> b.set(0, MOST, 0));
    }

    static void promise3_columnAndRowChanged() {
        Edges.bad("set(3, 4, 0)", b -> b.set(3, 4, 0));
        LandBoard tall = new LandBoard();
        tall.board(2, 6);
        due("set(1, 5, 0)", tall.set(1, 5, 0), SEA);
        due("set(5, 1, 0)", tall.set(5, 1, 0), BAD);
    }

    static void promise3_theNinthColumnIsNotTheNextRow() {
        LandBoard b = new LandBoard();
        b.board(8, 8);
        due("set(8, 0, 0)", b.set(8, 0, 0), BAD);
        due("at(0, 1)", b.at(0, 1), SEA);
        due("set(-1, 1, 0)", b.set(-1, 1, 0), BAD);
        due("at(7, 0)", b.at(7, 0), SEA);
        due("set(0, 8, 0)", b.set(0, 8, 0), BAD);
        due("size(0)", b.size(0), 0);
    }

    static void promise3_landTooSmall() {
        Edges.bad("set(0, 0, -1)", b -> b.set(0, 0, -1));
        Edges.bad("set(0, 0, least)", b -> b.set(0, 0, LEAST));
    }

    static void promise3_landTooLarge() {
        Edges.bad("set(0, 0, 6)", b -> b.set(0, 0, 6));
        Edges.bad("set(0, 0, most)", b -> b.set(0, 0, MOST));
    }

    static void promise3_noLandBeside() {
        int[] none = {-2, -3, -5, NONE};
        for (int land : none) {
            Edges.bad("set(0, 0, " + land + ")", b -> b.set(0, 0, land));
        }
    }

    static void promise3_theLeastAndTheGreatestLand() {
        LandBoard b = new LandBoard();
        due("set(0, 0, 0)", b.set(0, 0, 0), SEA);
        due("set(0, 0, 5)", b.set(0, 0, 5), 0);
        due("set(0, 0, 0)", b.set(0, 0, 0), 5);
        due("at(0, 0)", b.at(0, 0), 0);
    }

    static void promise3_fromSea() {
        LandBoard b = new LandBoard();
        due("set(3, 3, 1)", b.set(3, 3, 1), SEA);
        due("at(3, 3)", b.at(3, 3), 1);
    }

    static void promise3_toSea() {
        LandBoard b = Check.laid("01");
        due("set(0, 0, SEA)", b.set(0, 0, SEA), 0);
        due("at(0, 0)", b.at(0, 0), SEA);
        due("size(0)", b.size(0), 0);
    }

    static void promise3_seaToSea() {
        LandBoard b = new LandBoard();
        due("set(0, 0, SEA)", b.set(0, 0, SEA), SEA);
        due("at(0, 0)", b.at(0, 0), SEA);
    }

    static void promise3_theCornersOfTheLargest() {
        LandBoard b = new LandBoard();
        b.board(8, 8);
        int[][] corners = {{0, 0}, {7, 0}, {0, 7}, {7, 7}};
        for (int k = 0; k < 4; k++) {
            due("set", b.set(corners[k][0], corners[k][1], k), SEA);
        }
        for (int k = 0; k < 4; k++) {
            due("at", b.at(corners[k][0], corners[k][1]), k);
            due("size(" + k + ")", b.size(k), 1);
        }
    }

    static void promise3_otherCellsStay() {
        LandBoard b = Check.laid("012", "345", "012");
        due("set(1, 1, 3)", b.set(1, 1, 3), 4);
        Check.dueBoard("set(1, 1, 3)", b, "012", "335", "012");
    }

    static void promise3_noMovesAreKept() {
        LandBoard b = Edges.busy();
        due("set(4, 0, 1)", b.set(4, 0, 1), SEA);
        due("count(3)", b.count(3), 0);
        due("undo(100)", b.undo(100), 0);
        Check.dueBoard("undo(100)", b, "01111", "0021.", "02233", "22233");
    }

    static void promise3_noMovesAreKeptBehindTheSameLand() {
        LandBoard b = Edges.busy();
        due("set(0, 0, 0)", b.set(0, 0, 0), 0);
        due("count(3)", b.count(3), 0);
        due("undo(1)", b.undo(1), 0);
    }

    static void promise3_noMovesAreKeptBehindSeaToSea() {
        LandBoard b = Edges.busy();
        due("set(4, 1, SEA)", b.set(4, 1, SEA), SEA);
        due("count(3)", b.count(3), 0);
    }

    static void promise3_movesDoneStay() {
        LandBoard b = Edges.busy();
        b.set(0, 0, 1);
        due("count(4)", b.count(4), 3);
    }

    static void promise3_kindsWantedYearsStay() {
        LandBoard b = Edges.busy();
        b.set(0, 0, 1);
        due("about(0, 0)", b.about(0, 0), 1);
        due("about(2, 0)", b.about(2, 0), 2);
        due("about(1, 3)", b.about(1, 3), 5);
        due("moved(0, 2)", b.moved(0, 2), 1);
        due("back(0)", b.back(0), 18);
        due("at(0, 0)", b.at(0, 0), 0);
    }

    // ---- promise 4: at

    static void promise4_columnTooSmall() {
        Edges.bad("at(-1, 0)", b -> b.at(-1, 0));
        Edges.bad("at(-1, 1)", b -> b.at(-1, 1));
        Edges.bad("at(least, 0)", b -> b.at(LEAST, 0));
    }

    static void promise4_columnTooLarge() {
        Edges.bad("at(5, 0)", b -> b.at(5, 0));
        Edges.bad("at(most, 0)", b -> b.at(MOST, 0));
    }

    static void promise4_rowTooSmall() {
        Edges.bad("at(0, -1)", b -> b.at(0, -1));
        Edges.bad("at(0, least)", b -> b.at(0, LEAST));
    }

    static void promise4_rowTooLarge() {
        Edges.bad("at(0, 4)", b -> b.at(0, 4));
        Edges.bad("at(0, most)", b -> b.at(0, MOST));
    }

    static void promise4_columnAndRowChanged() {
        Edges.bad("at(3, 4)", b -> b.at(3, 4));
        LandBoard b = Check.laid("012", "345");
        due("at(2, 1)", b.at(2, 1), 5);
        due("at(1, 2)", b.at(1, 2), BAD);
    }

    static void promise4_theNinthColumnIsNotTheNextRow() {
        LandBoard b = Edges.full(2);
        due("at(7, 7)", b.at(7, 7), 2);
        due("at(8, 0)", b.at(8, 0), BAD);
        due("at(-1, 1)", b.at(-1, 1), BAD);
        due("at(0, 8)", b.at(0, 8), BAD);
        due("at(64, -8)", b.at(64, -8), BAD);
    }

    static void promise4_sea() {
        Edges.stays("at(4, 0)", SEA, b -> b.at(4, 0));
    }

    static void promise4_theLeastLand() {
        Edges.stays("at(0, 0)", 0, b -> b.at(0, 0));
    }

    static void promise4_theGreatestLand() {
        LandBoard b = Check.laid("55", "55");
        due("at(0, 0)", b.at(0, 0), 5);
        due("at(1, 1)", b.at(1, 1), 5);
    }

    static void promise4_nothingChanges() {
        Edges.stays("at(3, 1)", 1, b -> b.at(3, 1));
        Edges.stays("at(4, 0)", SEA, b -> b.at(4, 0));
    }

    // ---- promise 5: size

    static void promise5_landTooSmall() {
        Edges.bad("size(-1)", b -> b.size(-1));
        Edges.bad("size(least)", b -> b.size(LEAST));
    }

    static void promise5_landTooLarge() {
        Edges.bad("size(6)", b -> b.size(6));
        Edges.bad("size(most)", b -> b.size(MOST));
    }

    static void promise5_seaIsNoLand() {
        Edges.bad("size(SEA)", b -> b.size(SEA));
    }

    static void promise5_noCell() {
        Edges.stays("size(5)", 0, b -> b.size(5));
    }

    static void promise5_oneCell() {
        due("size(5)", Check.laid("..", ".5").size(5), 1);
    }

    static void promise5_sixtyFourCells() {
        LandBoard b = Edges.full(5);
        due("size(5)", b.size(5), 64);
        due("size(0)", b.size(0), 0);
    }

    static void promise5_piecesApart() {
        due("size(0)", Check.laid("0.0", "...", "0.0").size(0), 4);
    }

    static void promise5_nothingChanges() {
        Edges.stays("size(2)", 6, b -> b.size(2));
        Edges.stays("size(5)", 0, b -> b.size(5));
    }

    // ---- promise 6: whole

    static void promise6_landTooSmall() {
        Edges.bad("whole(-1)", b -> b.whole(-1));
        Edges.bad("whole(least)", b -> b.whole(LEAST));
    }

    static void promise6_landTooLarge() {
        Edges.bad("whole(6)", b -> b.whole(6));
        Edges.bad("whole(most)", b -> b.whole(MOST));
    }

    static void promise6_seaIsNoLand() {
        Edges.bad("whole(SEA)", b -> b.whole(SEA));
    }

    static void promise6_noCellIsNotWhole() {
        Edges.stays("whole(5)", 0, b -> b.whole(5));
    }

    static void promise6_oneCellIsWhole() {
        due("whole(0)", Check.laid("0").whole(0), 1);
        due("whole(5)", Check.laid("..", ".5").whole(5), 1);
    }

    static void promise6_theFullBoardIsWhole() {
        due("whole(4)", Edges.full(4).whole(4), 1);
    }

    static void promise6_cornersDoNotJoin() {
        due("whole(0), to the right", Check.laid("0.", ".0").whole(0), 0);
        due("whole(0), to the left", Check.laid(".0", "0.").whole(0), 0);
    }

    static void promise6_theSidesOfTheBoardDoNotJoin() {
        due("left and right", Check.laid("0......0").whole(0), 0);
        due("above and below", Check.laid("0", ".", ".", ".", ".", ".", ".", "0").whole(0), 0);
    }

    static void promise6_theEndOfARowDoesNotJoinTheNextRow() {
        due("eight columns", Check.laid(".......0", "0.......").whole(0), 0);
        due("three columns", Check.laid("..0", "0..").whole(0), 0);
    }

    static void promise6_theLastRowDoesNotJoinTheFirst() {
        due("whole(0)", Check.laid("0.......", "........", "........", "........", "........", "........",
            "........", "0.......").whole(0), 0);
    }

    static void promise6_aGapOfOneCell() {
        due("whole(0)", Check.laid("00000000", "11111110", "00000000", "01111111", "000.0000").whole(0), 0);
        due("whole(0), closed", Check.laid("00000000", "11111110", "00000000", "01111111", "00000000").whole(0), 1);
    }

    static void promise6_theLongestWayRound() {
        due("whole(0)", Check.laid("00000000", ".......0", "00000000", "0.......",
            "00000000", ".......0", "00000000", "0.......").whole(0), 1);
    }

    static void promise6_aRing() {
        due("whole(0)", Check.laid("000", "010", "000").whole(0), 1);
        due("whole(1)", Check.laid("000", "010", "000").whole(1), 1);
    }

    static void promise6_nothingChanges() {
        Edges.stays("whole(2)", 1, b -> b.whole(2));
        Edges.stays("whole(4)", 0, b -> b.whole(4));
    }

    // ---- promise 7: touch

    static void promise7_firstTooSmall() {
        Edges.bad("touch(-1, 0)", b -> b.touch(-1, 0));
        Edges.bad("touch(least, 0)", b -> b.touch(LEAST, 0));
    }

    static void promise7_firstTooLarge() {
        Edges.bad("touch(6, 0)", b -> b.touch(6, 0));
        Edges.bad("touch(most, SEA)", b -> b.touch(MOST, SEA));
    }

    static void promise7_secondTooSmall() {
        Edges.bad("touch(0, -1)", b -> b.touch(0, -1));
        Edges.bad("touch(SEA, least)", b -> b.touch(SEA, LEAST));
    }

    static void promise7_secondTooLarge() {
        Edges.bad("touch(0, 6)", b -> b.touch(0, 6));
        Edges.bad("touch(0, most)", b -> b.touch(0, MOST));
    }

    static void promise7_noLandNorSea() {
        for (int none : new int[] {-2, -3, -5, NONE}) {
            Edges.bad("touch(0, " + none + ")", b -> b.touch(0, none));
            Edges.bad("touch(" + none + ", 0)", b -> b.touch(none, 0));
        }
    }

    static void promise7_theSameLand() {
        Edges.bad("touch(0, 0)", b -> b.touch(0, 0));
        Edges.bad("touch(5, 5)", b -> b.touch(5, 5));
    }

    static void promise7_seaAndSea() {
        Edges.bad("touch(SEA, SEA)", b -> b.touch(SEA, SEA));
    }

    static void promise7_aLandWithoutCells() {
        Edges.stays("touch(0, 5)", 0, b -> b.touch(0, 5));
        Edges.stays("touch(5, 0)", 0, b -> b.touch(5, 0));
        Edges.stays("touch(4, 5)", 0, b -> b.touch(4, 5));
    }

    static void promise7_aLandWithoutCellsAndSea() {
        Edges.stays("touch(5, SEA)", 0, b -> b.touch(5, SEA));
        Edges.stays("touch(SEA, 5)", 0, b -> b.touch(SEA, 5));
    }

    static void promise7_eitherWay() {
        Edges.stays("touch(0, 1)", 1, b -> b.touch(0, 1));
        Edges.stays("touch(1, 0)", 1, b -> b.touch(1, 0));
        Edges.stays("touch(0, SEA)", 1, b -> b.touch(0, SEA));
        Edges.stays("touch(SEA, 0)", 1, b -> b.touch(SEA, 0));
        Edges.stays("touch(0, 3)", 0, b -> b.touch(0, 3));
        Edges.stays("touch(3, 0)", 0, b -> b.touch(3, 0));
    }

    static void promise7_sideBySide() {
        due("touch(4, 5)", Check.laid("45").touch(4, 5), 1);
        due("touch(5, 4)", Check.laid("45").touch(5, 4), 1);
    }

    static void promise7_oneAboveTheOther() {
        due("touch(4, 5)", Check.laid("4", "5").touch(4, 5), 1);
        due("touch(5, 4)", Check.laid("4", "5").touch(5, 4), 1);
    }

    static void promise7_cornersDoNotTouch() {
        due("to the right", Check.laid("02", "21").touch(0, 1), 0);
        due("to the left", Check.laid("20", "12").touch(0, 1), 0);
    }

    static void promise7_theSidesOfTheBoardDoNotTouch() {
        due("left and right", Check.laid("02222221").touch(0, 1), 0);
        due("above and below", Check.laid("0", "2", "2", "2", "2", "2", "2", "1").touch(0, 1), 0);
    }

    static void promise7_theEndOfARowDoesNotTouchTheNextRow() {
        due("eight columns", Check.laid("22222220", "12222222").touch(0, 1), 0);
        due("eight columns, other way", Check.laid("22222220", "12222222").touch(1, 0), 0);
        due("three columns", Check.laid("220", "122").touch(0, 1), 0);
    }

    static void promise7_eachEdgeIsAtSea() {
        due("the first row", Check.laid("00100", "00000", "00000", "00000", "00000").touch(1, SEA), 1);
        due("the first column", Check.laid("00000", "00000", "10000", "00000", "00000").touch(1, SEA), 1);
        due("the last column", Check.laid("00000", "00000", "00001", "00000", "00000").touch(1, SEA), 1);
        due("the last row", Check.laid("00000", "00000", "00000", "00000", "00100").touch(1, SEA), 1);
    }

    static void promise7_theEdgesOfTheLargestAreAtSea() {
        for (int k = 0; k < 4; k++) {
            LandBoard b = Edges.full(0);
            b.set(k == 0 ? 0 : k == 1 ? 7 : 3, k == 2 ? 0 : k == 3 ? 7 : 3, 1);
            due("edge " + k, b.touch(1, SEA), 1);
            due("edge " + k + ", other way", b.touch(SEA, 1), 1);
        }
    }

    static void promise7_oneFromEachEdgeIsNotAtSea() {
        for (int k = 0; k < 4; k++) {
            LandBoard b = Edges.full(0);
            b.set(k == 0 ? 1 : k == 1 ? 6 : 3, k == 2 ? 1 : k == 3 ? 6 : 3, 1);
            due("edge " + k, b.touch(1, SEA), 0);
            due("edge " + k + ", other way", b.touch(SEA, 1), 0);
        }
    }

    static void promise7_theEdgeIsThatOfTheBoardNow() {
        LandBoard b = Edges.full(0);
        Check.lay(b, "000", "010", "000");
        due("within", b.touch(1, SEA), 0);
        Check.lay(b, "000", "001", "000");
        due("at the edge", b.touch(1, SEA), 1);
        Check.lay(b, "0000", "0010", "0000");
        due("within a larger", b.touch(1, SEA), 0);
    }

    static void promise7_theFullBoardIsAtSea() {
        due("touch(0, SEA)", Edges.full(0).touch(0, SEA), 1);
    }

    static void promise7_oneByOneIsAtSea() {
        due("touch(5, SEA)", Check.laid("5").touch(5, SEA), 1);
        due("touch(SEA, 5)", Check.laid("5").touch(SEA, 5), 1);
    }

    static void promise7_aLakeBesideEachSide() {
        String[][] lakes = {
            {"00000", "00.00", "00100", "00000", "00000"}, {"00000", "00000", "00100", "00.00", "00000"},
            {"00000", "00000", "0.100", "00000", "00000"}, {"00000", "00000", "001.0", "00000", "00000"}};
        for (String[] lake : lakes) {
            due("touch(1, SEA)", Check.laid(lake).touch(1, SEA), 1);
            due("touch(SEA, 1)", Check.laid(lake).touch(SEA, 1), 1);
        }
    }

    static void promise7_aLakeAtACornerDoesNotTouch() {
        due("touch(1, SEA)", Check.laid("00000", "0.000", "00100", "000.0", "00000").touch(1, SEA), 0);
    }

    static void promise7_nothingChanges() {
        Edges.stays("touch(0, 1)", 1, b -> b.touch(0, 1));
        Edges.stays("touch(0, 3)", 0, b -> b.touch(0, 3));
        Edges.stays("touch(sea, 3)", 1, b -> b.touch(SEA, 3));
        Edges.stays("touch(4, sea)", 0, b -> b.touch(4, SEA));
    }

    // ---- promise 8: kind

    static void promise8_landTooSmall() {
        Edges.bad("kind(-1, 0, 0, 0)", b -> b.kind(-1, 0, 0, 0));
        Edges.bad("kind(least, 1, 0, 0)", b -> b.kind(LEAST, 1, 0, 0));
    }

    static void promise8_landTooLarge() {
        Edges.bad("kind(6, 0, 0, 0)", b -> b.kind(6, 0, 0, 0));
        Edges.bad("kind(most, 2, 0, 0)", b -> b.kind(MOST, 2, 0, 0));
    }

    static void promise8_seaHasNoKind() {
        Edges.bad("kind(SEA, 0, 4, 0)", b -> b.kind(SEA, 0, 4, 0));
        Edges.bad("kind(SEA, 1, 4, 0)", b -> b.kind(SEA, 1, 4, 0));
    }

    static void promise8_kindTooSmall() {
        Edges.bad("kind(0, -1, 0, 0)", b -> b.kind(0, -1, 0, 0));
        Edges.bad("kind(0, least, 0, 0)", b -> b.kind(0, LEAST, 0, 0));
    }

    static void promise8_kindTooLarge() {
        Edges.bad("kind(0, 3, 0, 0)", b -> b.kind(0, 3, 0, 0));
        Edges.bad("kind(0, most, 0, 0)", b -> b.kind(0, MOST, 0, 0));
    }

    static void promise8_columnTooSmall() {
        Edges.bad("kind(0, 1, -1, 1)", b -> b.kind(0, 1, -1, 1));
        Edges.bad("kind(0, 2, -1, 1)", b -> b.kind(0, 2, -1, 1));
        Edges.bad("kind(0, 2, least, 1)", b -> b.kind(0, 2, LEAST, 1));
    }

    static void promise8_columnTooLarge() {
        Edges.bad("kind(0, 1, 5, 0)", b -> b.kind(0, 1, 5, 0));
        Edges.bad("kind(0, 2, 5, 0)", b -> b.kind(0, 2, 5, 0));
        Edges.bad("kind(0, 1, most, 0)", b -> b.kind(0, 1, MOST, 0));
    }

    static void promise8_rowTooSmall() {
        Edges.bad("kind(0, 1, 0, -1)", b -> b.kind(0, 1, 0, -1));
        Edges.bad("kind(0, 2, 0, -1)", b -> b.kind(0, 2, 0, -1));
    }

    static void promise8_rowTooLarge() {
        Edges.bad("kind(0, 1, 0, 4)", b -> b.kind(0, 1, 0, 4));
        Edges.bad("kind(0, 2, 0, 4)", b -> b.kind(0, 2, 0, 4));
        Edges.bad("kind(0, 2, 0, most)", b -> b.kind(0, 2, 0, MOST));
    }

    static void promise8_homeInAnothersCell() {
        Edges.state("kind(0, 1, 1, 0)", b -> b.kind(0, 1, 1, 0));
    }

    static void promise8_shoreInAnothersCell() {
        Edges.state("kind(0, 2, 1, 0)", b -> b.kind(0, 2, 1, 0));
    }

    static void promise8_homeAtSea() {
        Edges.state("kind(0, 1, 4, 0)", b -> b.kind(0, 1, 4, 0));
    }

    static void promise8_shoreAtSea() {
        Edges.state("kind(0, 2, 4, 0)", b -> b.kind(0, 2, 4, 0));
    }

    static void promise8_homeOfALandWithoutCells() {
        Edges.state("kind(5, 1, 0, 0)", b -> b.kind(5, 1, 0, 0));
    }

    static void promise8_shoreOfALandWithoutCells() {
        Edges.state("kind(5, 2, 0, 0)", b -> b.kind(5, 2, 0, 0));
    }

    static void promise8_badStandsAheadOfState() {
        Edges.bad("a land too large, another's cell", b -> b.kind(6, 1, 1, 0));
        Edges.bad("a kind too large, another's cell", b -> b.kind(0, 3, 1, 0));
        Edges.bad("a land without cells, a column too large", b -> b.kind(5, 1, 5, 0));
    }

    static void promise8_theFirstKindLooksAtNoCell() {
        LandBoard b = Edges.busy();
        due("kind(0, 0, -5, 99)", b.kind(0, 0, -5, 99), 1);
        due("kind(2, 0, most, least)", b.kind(2, 0, MOST, LEAST), 1);
        due("about(0, 0)", b.about(0, 0), 0);
        due("about(2, 0)", b.about(2, 0), 0);
    }

    static void promise8_theFirstKindOfALandWithoutCells() {
        Edges.stays("kind(5, 0, 0, 0)", 1, b -> b.kind(5, 0, 0, 0));
    }

    static void promise8_theFirstKindOnceMore() {
        Edges.stays("kind(1, 0, 0, 0)", 1, b -> b.kind(1, 0, 0, 0));
    }

    static void promise8_theFirstKindLetsGoOfTheOwnCell() {
        LandBoard b = Edges.busy();
        b.kind(0, 0, 0, 0);
        due("about(0, 1)", b.about(0, 1), NONE);
        due("about(0, 2)", b.about(0, 2), NONE);
    }

    static void promise8_theSameKindWithTheSameCell() {
        Edges.stays("kind(0, 1, 0, 0)", 1, b -> b.kind(0, 1, 0, 0));
        Edges.stays("kind(2, 2, 2, 3)", 1, b -> b.kind(2, 2, 2, 3));
    }

    static void promise8_theSameKindWithAnotherCell() {
        LandBoard b = Edges.busy();
        due("kind(0, 1, 0, 2)", b.kind(0, 1, 0, 2), 1);
        due("about(0, 0)", b.about(0, 0), 1);
        due("about(0, 1)", b.about(0, 1), 0);
        due("about(0, 2)", b.about(0, 2), 2);
    }

    static void promise8_theFirstCell() {
        LandBoard b = Edges.full(5);
        due("kind(5, 1, 0, 0)", b.kind(5, 1, 0, 0), 1);
        due("about(5, 1)", b.about(5, 1), 0);
        due("about(5, 2)", b.about(5, 2), 0);
        due("leaves(0, 0)", b.leaves(0, 0), 0);
    }

    static void promise8_theLastCell() {
        LandBoard b = Edges.full(5);
        due("kind(5, 2, 7, 7)", b.kind(5, 2, 7, 7), 1);
        due("about(5, 0)", b.about(5, 0), 2);
        due("about(5, 1)", b.about(5, 1), 7);
        due("about(5, 2)", b.about(5, 2), 7);
        due("leaves(7, 7)", b.leaves(7, 7), 0);
    }

    static void promise8_ofOneLandAlone() {
        LandBoard b = Check.laid("01", "01");
        b.kind(0, 1, 0, 1);
        due("about(0, 0)", b.about(0, 0), 1);
        due("about(1, 0)", b.about(1, 0), 0);
        due("about(1, 1)", b.about(1, 1), NONE);
    }

    static void promise8_movesStay() {
        LandBoard b = Edges.busy();
        b.kind(1, 1, 3, 0);
        b.kind(0, 0, 0, 0);
        due("count(3)", b.count(3), 3);
        due("undo(100)", b.undo(100), 3);
    }

    // ---- promise 9: about

    static void promise9_landTooSmall() {
        Edges.bad("about(-1, 0)", b -> b.about(-1, 0));
        Edges.bad("about(least, 3)", b -> b.about(LEAST, 3));
    }

    static void promise9_landTooLarge() {
        Edges.bad("about(6, 0)", b -> b.about(6, 0));
        Edges.bad("about(most, 3)", b -> b.about(MOST, 3));
    }

    static void promise9_seaIsNoLand() {
        Edges.bad("about(SEA, 0)", b -> b.about(SEA, 0));
    }

    static void promise9_whatTooSmall() {
        Edges.bad("about(0, -1)", b -> b.about(0, -1));
        Edges.bad("about(0, least)", b -> b.about(0, LEAST));
    }

    static void promise9_whatTooLarge() {
        Edges.bad("about(0, 4)", b -> b.about(0, 4));
        Edges.bad("about(0, most)", b -> b.about(0, MOST));
    }

    static void promise9_eachKind() {
        Edges.stays("about(1, 0)", 0, b -> b.about(1, 0));
        Edges.stays("about(0, 0)", 1, b -> b.about(0, 0));
        Edges.stays("about(2, 0)", 2, b -> b.about(2, 0));
    }

    static void promise9_noOwnCell() {
        Edges.stays("about(1, 1)", NONE, b -> b.about(1, 1));
        Edges.stays("about(1, 2)", NONE, b -> b.about(1, 2));
    }

    static void promise9_theFirstCellIsNotNone() {
        Edges.stays("about(0, 1)", 0, b -> b.about(0, 1));
        Edges.stays("about(0, 2)", 0, b -> b.about(0, 2));
    }

    static void promise9_columnIsNotRow() {
        Edges.stays("about(2, 1)", 2, b -> b.about(2, 1));
        Edges.stays("about(2, 2)", 3, b -> b.about(2, 2));
    }

    static void promise9_wantedNoughtAndMost() {
        Edges.stays("about(4, 3)", 0, b -> b.about(4, 3));
        Edges.stays("about(5, 3)", 64, b -> b.about(5, 3));
    }

    static void promise9_aLandWithoutCells() {
        LandBoard b = new LandBoard();
        due("about(5, 0)", b.about(5, 0), 0);
        due("about(5, 1)", b.about(5, 1), NONE);
        due("about(5, 2)", b.about(5, 2), NONE);
        due("about(5, 3)", b.about(5, 3), 0);
    }

    static void promise9_nothingChanges() {
        Edges.stays("about(0, 0)", 1, b -> b.about(0, 0));
        Edges.stays("about(2, 1)", 2, b -> b.about(2, 1));
        Edges.stays("about(2, 2)", 3, b -> b.about(2, 2));
        Edges.stays("about(4, 1)", NONE, b -> b.about(4, 1));
        Edges.stays("about(5, 3)", 64, b -> b.about(5, 3));
    }

    static void promise9_noOwnCellBehindANewBoard() {
        LandBoard b = Edges.busy();
        b.board(5, 4);
        due("about(0, 1)", b.about(0, 1), NONE);
        due("about(2, 2)", b.about(2, 2), NONE);
    }

    static void promise9_noOwnCellBehindAYear() {
        LandBoard b = Edges.busy();
        b.back(2);
        due("about(0, 1)", b.about(0, 1), NONE);
        due("about(2, 2)", b.about(2, 2), NONE);
    }

    static void promise9_theOwnCellThatIsAnothersNow() {
        LandBoard b = Edges.busy();
        b.set(0, 0, 1);
        due("about(0, 0)", b.about(0, 0), 1);
        due("about(0, 1)", b.about(0, 1), 0);
        due("about(0, 2)", b.about(0, 2), 0);
    }
}
