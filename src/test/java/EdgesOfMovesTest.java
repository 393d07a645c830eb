/** Promises 10 to 17: each edge that the document names, and each refused call, a test of its own. */
final class EdgesOfMovesTest {
    private static final int BAD = Edges.BAD, STATE = Edges.STATE, SEA = Edges.SEA, NONE = Edges.NONE;
    private static final int MOST = Edges.MOST, LEAST = Edges.LEAST;

    private EdgesOfMovesTest() {
    }

    public static void main(String[] args) throws IllegalAccessException {
        Edges.runAll(EdgesOfMovesTest.class, 10, 17);
    }

    private static void due(String call, long got, long want) {
        Check.due(call, got, want);
    }

    private static LandBoard laid(String... rows) {
        return Check.laid(rows);
    }

    /** The rows with lands a, b, c in the places of their letters, for each three of the six: all answer so. */
    private static void dueOfEachThree(int want, int x, int y, char to, String... rows) {
        for (int k = 0; k < 6 * 6 * 6; k++) {
            int[] lands = {k / 36, k / 6 % 6, k % 6};
            if (lands[0] != lands[1] && lands[0] != lands[2] && lands[1] != lands[2]) {
                String[] drawn = rows.clone();
                for (int row = 0; row < rows.length; row++) {
                    for (int one = 0; one < 3; one++) {
                        drawn[row] = drawn[row].replace((char) ('a' + one), (char) ('0' + lands[one]));
                    }
                }
                due("lands " + lands[0] + lands[1] + lands[2], laid(drawn).may(x, y, lands[to - 'a']), want);
            }
        }
    }

    // ---- promise 10: leaves

    static void promise10_columnTooSmall() {
        Edges.bad("leaves(-1, 0)", b -> b.leaves(-1, 0));
        Edges.bad("leaves(-1, 1)", b -> b.leaves(-1, 1));
        Edges.bad("leaves(least, 0)", b -> b.leaves(LEAST, 0));
    }

    static void promise10_columnTooLarge() {
        Edges.bad("leaves(5, 0)", b -> b.leaves(5, 0));
        Edges.bad("leaves(most, 0)", b -> b.leaves(MOST, 0));
    }

    static void promise10_rowTooSmall() {
        Edges.bad("leaves(0, -1)", b -> b.leaves(0, -1));
        Edges.bad("leaves(0, least)", b -> b.leaves(0, LEAST));
    }

    static void promise10_rowTooLarge() {
        Edges.bad("leaves(0, 4)", b -> b.leaves(0, 4));
        Edges.bad("leaves(0, most)", b -> b.leaves(0, MOST));
    }

    static void promise10_aCellOfSea() {
        Edges.bad("leaves(4, 0)", b -> b.leaves(4, 0));
        Edges.bad("leaves(4, 1)", b -> b.leaves(4, 1));
        due("leaves(0, 0) of a new object", new LandBoard().leaves(0, 0), BAD);
    }

    static void promise10_nothingChangesButTheTrace() {
        LandBoard b = Edges.busy();
        due("leaves(3, 3)", b.leaves(3, 3), 1);
        due("trace()", b.trace(), 13);
        due("count(3)", b.count(3), 3);
        Check.dueBoard("leaves(3, 3)", b, "0111.", "0021.", "02233", "22233");
    }

    static void promise10_theLastCell() {
        due("one by one", laid("5").leaves(0, 0), 0);
        due("beside another", laid("01").leaves(0, 0), 0);
        due("beside sea", laid("...", ".0.", "...").leaves(1, 1), 0);
    }

    static void promise10_oneOfTwoCells() {
        due("leaves(0, 0)", laid("00").leaves(0, 0), 1);
        due("leaves(1, 0)", laid("00").leaves(1, 0), 1);
    }

    static void promise10_theMiddleOfThree() {
        due("leaves(1, 0)", laid("000").leaves(1, 0), 0);
        due("leaves(0, 1)", laid("0", "0", "0").leaves(0, 1), 0);
    }

    static void promise10_theCellBetweenCorners() {
        due("leaves(1, 0)", laid("00", ".0").leaves(1, 0), 0);
        due("leaves(0, 0)", laid("00", ".0").leaves(0, 0), 1);
    }

    static void promise10_aCellOfARing() {
        LandBoard b = laid("000", "010", "000");
        due("leaves(0, 0)", b.leaves(0, 0), 1);
        due("leaves(1, 2)", b.leaves(1, 2), 1);
    }

    static void promise10_theSidesOfTheBoardDoNotJoin() {
        due("in a row", laid("00000000").leaves(4, 0), 0);
        due("by the next row", laid(".....000", "00......").leaves(7, 0), 0);
    }

    static void promise10_twoPiecesBecomeOne() {
        due("the cell apart", laid("0.00").leaves(0, 0), 1);
        due("a cell of the other piece", laid("0.00").leaves(3, 0), 0);
        due("either of two cells apart", laid("0.0").leaves(2, 0), 1);
    }

    static void promise10_cornersOfTheLargest() {
        LandBoard b = Edges.full(5);
        due("leaves(0, 0)", b.leaves(0, 0), 1);
        due("leaves(7, 0)", b.leaves(7, 0), 1);
        due("leaves(0, 7)", b.leaves(0, 7), 1);
        due("leaves(7, 7)", b.leaves(7, 7), 1);
    }

    static void promise10_homeKeepsItsOwnCell() {
        LandBoard b = laid("000", "000");
        due("as LAND", b.leaves(2, 1), 1);
        b.kind(0, 1, 2, 1);
        due("as HOME, its own", b.leaves(2, 1), 0);
        due("as HOME, beside it", b.leaves(1, 1), 1);
        due("as HOME, above it", b.leaves(2, 0), 1);
    }

    static void promise10_homeIsAskedAsLandToo() {
        LandBoard b = laid("000");
        b.kind(0, 1, 0, 0);
        due("the middle", b.leaves(1, 0), 0);
        due("the end", b.leaves(2, 0), 1);
    }

    static void promise10_homeOfOneCell() {
        LandBoard b = laid("01");
        b.kind(0, 1, 0, 0);
        due("leaves(0, 0)", b.leaves(0, 0), 0);
    }

    static void promise10_homeWithoutShore() {
        LandBoard b = laid("1011", "1001", "1111");
        b.kind(0, 1, 1, 1);
        due("leaves(1, 0)", laid("1011", "1001", "1111").leaves(2, 1), 1);
        due("its one cell at sea", b.leaves(1, 0), 1);
    }

    static void promise10_theOwnCellOfAnotherLandBinds() {
        LandBoard b = laid("000", "111");
        b.kind(0, 1, 0, 0);
        b.set(0, 0, 1);
        due("the land that has the cell now", b.leaves(0, 0), 1);
        due("the land whose own cell it was", b.leaves(1, 0), 1);
        due("the land whose own cell it was, other end", b.leaves(2, 0), 1);
    }

    static void promise10_theFirstKindAgainKeepsNoCell() {
        LandBoard b = laid("000", "000");
        b.kind(0, 1, 2, 1);
        b.kind(0, 0, 2, 1);
        due("leaves(2, 1)", b.leaves(2, 1), 1);
    }

    static void promise10_shoreKeepsItsOwnCell() {
        LandBoard b = laid("000", "000");
        b.kind(0, 2, 2, 1);
        due("its own", b.leaves(2, 1), 0);
        due("beside it", b.leaves(1, 1), 1);
    }

    static void promise10_shoreIsAskedAsLandToo() {
        LandBoard b = laid("000");
        b.kind(0, 2, 0, 0);
        due("the middle", b.leaves(1, 0), 0);
        due("the end", b.leaves(2, 0), 1);
    }

    static void promise10_shoreKeepsItsOneCellAtTheEdge() {
        LandBoard b = laid("1011", "1001", "1111");
        due("as LAND", b.leaves(1, 0), 1);
        b.kind(0, 2, 1, 1);
        due("as SHORE", b.leaves(1, 0), 0);
        due("as SHORE, within", b.leaves(2, 1), 1);
    }

    static void promise10_shoreKeepsItsOneCellAtALake() {
        LandBoard b = laid("11111", "1000.", "11111");
        b.kind(0, 2, 1, 1);
        due("at the lake", b.leaves(3, 1), 0);
        b.set(1, 2, SEA);
        due("at one of two lakes", b.leaves(3, 1), 1);
    }

    static void promise10_whatShoreLeavesIsNotSea() {
        LandBoard b = laid("1111", "1001", "1001", "1111");
        b.kind(0, 2, 1, 1);
        due("leaves(2, 2)", b.leaves(2, 2), 0);
        due("leaves(2, 1)", b.leaves(2, 1), 0);
    }

    static void promise10_shoreOfOneCell() {
        LandBoard b = laid("01");
        b.kind(0, 2, 0, 0);
        due("leaves(0, 0)", b.leaves(0, 0), 0);
    }

    static void promise10_shoreOfTheFullBoard() {
        LandBoard b = Edges.full(0);
        b.kind(0, 2, 0, 0);
        due("leaves(0, 0)", b.leaves(0, 0), 0);
        due("leaves(7, 7)", b.leaves(7, 7), 1);
        due("leaves(3, 3)", b.leaves(3, 3), 1);
    }

    // ---- promise 11: may

    static void promise11_columnTooSmall() {
        Edges.bad("may(-1, 0, 0)", b -> b.may(-1, 0, 0));
        Edges.bad("may(-1, 1, 0)", b -> b.may(-1, 1, 0));
        Edges.bad("may(least, 0, 0)", b -> b.may(LEAST, 0, 0));
    }

    static void promise11_columnTooLarge() {
        Edges.bad("may(5, 0, 0)", b -> b.may(5, 0, 0));
        Edges.bad("may(most, 0, 0)", b -> b.may(MOST, 0, 0));
    }

    static void promise11_rowTooSmall() {
        Edges.bad("may(0, -1, 0)", b -> b.may(0, -1, 0));
        Edges.bad("may(0, least, 0)", b -> b.may(0, LEAST, 0));
    }

    static void promise11_rowTooLarge() {
        Edges.bad("may(0, 4, 0)", b -> b.may(0, 4, 0));
        Edges.bad("may(0, most, 0)", b -> b.may(0, MOST, 0));
    }

    static void promise11_landTooSmall() {
        Edges.bad("may(1, 0, -1)", b -> b.may(1, 0, -1));
        Edges.bad("may(1, 0, least)", b -> b.may(1, 0, LEAST));
    }

    static void promise11_landTooLarge() {
        Edges.bad("may(1, 0, 6)", b -> b.may(1, 0, 6));
        Edges.bad("may(1, 0, most)", b -> b.may(1, 0, MOST));
    }

    static void promise11_seaIsNoLandToGoTo() {
        Edges.bad("may(3, 0, SEA)", b -> b.may(3, 0, SEA));
    }

    static void promise11_aCellOfSeaToALandTooLarge() {
        Edges.bad("may(4, 0, 6)", b -> b.may(4, 0, 6));
        Edges.bad("may(4, 0, SEA)", b -> b.may(4, 0, SEA));
    }

    static void promise11_aCellOfSeaMayNot() {
        Edges.stays("may(4, 0, 1)", 0, b -> b.may(4, 0, 1));
        Edges.stays("may(4, 1, 3)", 0, b -> b.may(4, 1, 3));
    }

    static void promise11_itMayAndNothingChanges() {
        Edges.stays("may(1, 0, 0)", 1, b -> b.may(1, 0, 0));
    }

    static void promise11_itMayNotAndNothingChanges() {
        Edges.stays("may(2, 1, 0): 1 and 2 would part", 0, b -> b.may(2, 1, 0));
        Edges.stays("may(0, 0, 1): its own cell", 0, b -> b.may(0, 0, 1));
        Edges.stays("may(4, 0, 1): sea", 0, b -> b.may(4, 0, 1));
    }

    static void promise11_toItsOwnLand() {
        Edges.stays("may(1, 0, 1)", 0, b -> b.may(1, 0, 1));
        due("the full board", Edges.full(0).may(7, 7, 0), 0);
    }

    static void promise11_toALandThatIsNotBeside() {
        Edges.stays("may(3, 1, 0)", 0, b -> b.may(3, 1, 0));
    }

    static void promise11_toALandWithoutCells() {
        Edges.stays("may(0, 2, 5)", 0, b -> b.may(0, 2, 5));
    }

    static void promise11_toALandAtACorner() {
        LandBoard b = laid("1111", "1002", "1122");
        due("at the corner", b.may(1, 1, 2), 0);
        due("beside", b.may(1, 1, 1), 1);
    }

    static void promise11_fromEachSide() {
        due("from the right", laid("001").may(1, 0, 1), 1);
        due("from the left", laid("100").may(1, 0, 1), 1);
        due("from below", laid("0", "0", "1").may(0, 1, 1), 1);
        due("from above", laid("1", "0", "0").may(0, 1, 1), 1);
    }

    static void promise11_theSidesOfTheBoardAreNotBeside() {
        due("the next row", laid(".....000", "11......").may(7, 0, 1), 0);
        due("the row ahead", laid(".....111", "00......").may(0, 1, 1), 0);
        due("the same row", laid("000...11").may(0, 0, 1), 0);
        due("above and below", laid("0", "0", ".", ".", ".", ".", "1", "1").may(0, 0, 1), 0);
    }

    static void promise11_theLastCellOfALand() {
        due("may(0, 0, 1)", laid("01").may(0, 0, 1), 0);
        due("may(1, 0, 0)", laid("01").may(1, 0, 0), 0);
    }

    static void promise11_whatWouldBeInPieces() {
        due("the middle", laid("000", "111").may(1, 0, 1), 0);
        due("the end", laid("000", "111").may(0, 0, 1), 1);
    }

    static void promise11_theOwnCellOfAHome() {
        LandBoard b = laid("000", "111");
        b.kind(0, 1, 0, 0);
        due("its own cell", b.may(0, 0, 1), 0);
        due("another cell", b.may(2, 0, 1), 1);
    }

    static void promise11_theOwnCellOfAShore() {
        LandBoard b = laid("000", "111");
        b.kind(0, 2, 0, 0);
        due("its own cell", b.may(0, 0, 1), 0);
        due("another cell", b.may(2, 0, 1), 1);
    }

    static void promise11_aShoreWithoutSea() {
        String[] rows = {"11111", "10001", "11111"};
        due("as LAND", laid(rows).may(1, 1, 1), 1);
        LandBoard b = laid(rows);
        b.kind(0, 2, 3, 1);
        due("as SHORE", b.may(1, 1, 1), 0);
        b.kind(0, 1, 3, 1);
        due("as HOME", b.may(1, 1, 1), 1);
    }

    static void promise11_theKindOfTheLandThatGets() {
        LandBoard b = laid("000", "111");
        b.kind(1, 1, 1, 1);
        due("a HOME gets", b.may(0, 0, 1), 1);
        b.kind(1, 2, 1, 1);
        due("a SHORE gets", b.may(0, 0, 1), 1);
    }

    static void promise11_aTouchWithAThirdWouldEnd() {
        due("it ends", laid("002", "012", "112").may(1, 0, 1), 0);
        due("it stays elsewhere", laid("002", "002", "012", "112").may(1, 1, 1), 1);
    }

    static void promise11_aTouchWithAThirdWouldBegin() {
        due("it begins", laid("102", "002").may(1, 0, 1), 0);
        due("it is there ahead", laid("102", "002", "002", "112").may(1, 0, 1), 1);
    }

    static void promise11_aTouchWithTheGreatestLand() {
        due("it ends", laid("335", "345", "445").may(1, 0, 4), 0);
        due("it begins", laid("435", "335").may(1, 0, 4), 0);
        due("both stay", laid("335", "335", "345", "445").may(1, 1, 4), 1);
    }

    static void promise11_aTouchOfAnyTwoWouldEnd() {
        dueOfEachThree(0, 1, 0, 'b', "aac", "abc", "bbc");
        dueOfEachThree(1, 1, 1, 'b', "aac", "aac", "abc", "bbc");
    }

    static void promise11_aTouchOfAnyTwoWouldBegin() {
        dueOfEachThree(0, 1, 0, 'b', "bac", "aac");
        dueOfEachThree(1, 1, 0, 'b', "bac", "aac", "aac", "bbc");
    }

    static void promise11_anyLandWouldLoseTheEdge() {
        dueOfEachThree(0, 1, 0, 'b', "bab", "bac", "bbb");
        dueOfEachThree(1, 1, 0, 'b', "baab", "baac", "bbbb");
    }

    static void promise11_anyLandWouldWinTheEdge() {
        dueOfEachThree(0, 1, 0, 'b', "aaaa", "abca", "aaaa");
        dueOfEachThree(1, 1, 1, 'b', "aaaaa", "aaaaa", "abcaa", "aaaaa");
    }

    static void promise11_oneTouchOfManyWouldEnd() {
        due("0 and 3, 1 and 2 stay", laid("003", "013", "112").may(1, 0, 1), 0);
        due("0 and 4, 1 and 3 stay", laid("004", "014", "113").may(1, 0, 1), 0);
    }

    static void promise11_oneTouchOfManyWouldBegin() {
        due("0 and 3, 1 and 2 stay", laid("013", "113", "222").may(1, 0, 0), 0);
        due("0 and 5, 1 and 4 stay", laid("015", "115", "444").may(1, 0, 0), 0);
    }

    static void promise11_theTouchOfTheTwoWouldEnd() {
        due("a piece apart goes", laid("0.01").may(2, 0, 1), 0);
        due("no piece is apart", laid("0001").may(2, 0, 1), 1);
    }

    static void promise11_theEdgeWouldBeLost() {
        due("its one cell there", laid("101", "101", "111").may(1, 0, 1), 0);
        due("one of two cells there", laid("1001", "1001", "1111").may(1, 0, 1), 1);
    }

    static void promise11_theEdgeWouldBeWon() {
        due("won", laid("000", "010", "000").may(1, 0, 1), 0);
        due("not reached", laid("00000", "00000", "00100", "00000", "00000").may(2, 1, 1), 1);
    }

    static void promise11_theEdgeAndTheGreatestLand() {
        due("lost", laid("0502", "0503", "0003").may(1, 0, 0), 0);
        due("won", laid("0002", "0503", "0003").may(1, 0, 5), 0);
    }

    static void promise11_aLakeWouldBeLost() {
        due("its one cell there", laid("11111", "100.1", "11111").may(2, 1, 1), 0);
        due("another cell", laid("11111", "100.1", "11111").may(1, 1, 1), 1);
    }

    static void promise11_aLakeWouldBeWon() {
        due("won", laid("00000", "010.0", "00000", "00000").may(2, 1, 1), 0);
        due("another cell", laid("000000", "0100.0", "000000", "000000").may(2, 1, 1), 1);
    }

    // ---- promise 12: move

    static void promise12_columnTooSmall() {
        Edges.bad("move(-1, 0, 0)", b -> b.move(-1, 0, 0));
        Edges.bad("move(least, 0, 0)", b -> b.move(LEAST, 0, 0));
    }

    static void promise12_columnTooLarge() {
        Edges.bad("move(5, 0, 0)", b -> b.move(5, 0, 0));
        Edges.bad("move(most, 0, 0)", b -> b.move(MOST, 0, 0));
    }

    static void promise12_rowTooSmall() {
        Edges.bad("move(0, -1, 0)", b -> b.move(0, -1, 0));
        Edges.bad("move(0, least, 0)", b -> b.move(0, LEAST, 0));
    }

    static void promise12_rowTooLarge() {
        Edges.bad("move(0, 4, 0)", b -> b.move(0, 4, 0));
        Edges.bad("move(0, most, 0)", b -> b.move(0, MOST, 0));
    }

    static void promise12_landTooSmall() {
        Edges.bad("move(1, 0, -1)", b -> b.move(1, 0, -1));
        Edges.bad("move(1, 0, least)", b -> b.move(1, 0, LEAST));
    }

    static void promise12_landTooLarge() {
        Edges.bad("move(1, 0, 6)", b -> b.move(1, 0, 6));
        Edges.bad("move(1, 0, most)", b -> b.move(1, 0, MOST));
    }

    static void promise12_seaIsNoLandToGoTo() {
        Edges.bad("move(3, 0, SEA)", b -> b.move(3, 0, SEA));
    }

    static void promise12_badStandsAheadOfState() {
        Edges.bad("sea to a land too large", b -> b.move(4, 0, 6));
        Edges.bad("sea to SEA", b -> b.move(4, 0, SEA));
        Edges.bad("no cell, to a land without cells", b -> b.move(5, 0, 5));
    }

    static void promise12_aCellOfSea() {
        Edges.state("move(4, 0, 1)", b -> b.move(4, 0, 1));
        Edges.state("move(4, 1, 3)", b -> b.move(4, 1, 3));
    }

    static void promise12_toItsOwnLand() {
        Edges.state("move(1, 0, 1)", b -> b.move(1, 0, 1));
    }

    static void promise12_toALandThatIsNotBeside() {
        Edges.state("move(3, 1, 0)", b -> b.move(3, 1, 0));
    }

    static void promise12_toALandWithoutCells() {
        Edges.state("move(0, 2, 5)", b -> b.move(0, 2, 5));
    }

    static void promise12_whatWouldBeInPieces() {
        Edges.state("move(2, 0, 2)", b -> b.move(2, 0, 2));
    }

    static void promise12_theLastCell() {
        LandBoard b = laid("01");
        due("move(0, 0, 1)", b.move(0, 0, 1), STATE);
        Check.dueBoard("move(0, 0, 1)", b, "01");
    }

    static void promise12_theOwnCellOfAHome() {
        Edges.state("move(0, 0, 1)", b -> b.move(0, 0, 1));
        LandBoard b = Edges.busy();
        b.kind(0, 0, 0, 0);
        due("as LAND", b.move(0, 0, 1), 0);
    }

    static void promise12_theOwnCellOfAShore() {
        Edges.state("move(2, 3, 3)", b -> b.move(2, 3, 3));
        LandBoard b = Edges.busy();
        b.kind(2, 0, 0, 0);
        due("as LAND", b.move(2, 3, 3), 2);
    }

    static void promise12_aTouchWouldEnd() {
        Edges.state("move(3, 1, 2)", b -> b.move(3, 1, 2));
        Edges.state("move(2, 1, 0)", b -> b.move(2, 1, 0));
    }

    static void promise12_aTouchWouldBegin() {
        LandBoard b = laid("102", "002");
        due("move(1, 0, 1)", b.move(1, 0, 1), STATE);
        Check.dueBoard("move(1, 0, 1)", b, "102", "002");
        due("count(3)", b.count(3), 0);
    }

    static void promise12_fromTheLeastLandAndTheGreatest() {
        LandBoard b = laid("0005", "0005");
        due("from 0", b.move(2, 0, 5), 0);
        due("from 5", b.move(2, 0, 0), 5);
        Check.dueBoard("to and fro", b, "0005", "0005");
    }

    static void promise12_isKeptAndDone() {
        LandBoard b = Edges.busy();
        due("move(1, 0, 0)", b.move(1, 0, 0), 1);
        due("count(3)", b.count(3), 4);
        due("count(4)", b.count(4), 4);
        Check.dueBoard("move(1, 0, 0)", b, "0011.", "0021.", "02233", "22233");
    }

    static void promise12_kindsWantedYearsTraceStay() {
        LandBoard b = Edges.busy();
        b.move(1, 0, 0);
        due("about(0, 0)", b.about(0, 0), 1);
        due("about(2, 1)", b.about(2, 1), 2);
        due("about(0, 3)", b.about(0, 3), 4);
        due("moved(0, 2)", b.moved(0, 2), 1);
        due("trace()", b.trace(), 12);
    }

    // ---- promise 13: want

    static void promise13_landTooSmall() {
        Edges.bad("want(-1, 1)", b -> b.want(-1, 1));
        Edges.bad("want(least, 1)", b -> b.want(LEAST, 1));
    }

    static void promise13_landTooLarge() {
        Edges.bad("want(6, 1)", b -> b.want(6, 1));
        Edges.bad("want(most, 1)", b -> b.want(MOST, 1));
    }

    static void promise13_seaIsNoLand() {
        Edges.bad("want(SEA, 1)", b -> b.want(SEA, 1));
    }

    static void promise13_fewerThanNone() {
        Edges.bad("want(0, -1)", b -> b.want(0, -1));
        Edges.bad("want(0, least)", b -> b.want(0, LEAST));
    }

    static void promise13_sixtyFive() {
        Edges.bad("want(0, 65)", b -> b.want(0, 65));
        Edges.bad("want(0, most)", b -> b.want(0, MOST));
    }

    static void promise13_sixtyFour() {
        LandBoard b = new LandBoard();
        due("want(0, 64)", b.want(0, 64), 0);
        due("about(0, 3)", b.about(0, 3), 64);
        due("want(0, 64)", b.want(0, 64), 64);
    }

    static void promise13_none() {
        LandBoard b = Edges.busy();
        due("want(5, 0)", b.want(5, 0), 64);
        due("about(5, 3)", b.about(5, 3), 0);
        due("want(5, 0)", b.want(5, 0), 0);
    }

    static void promise13_theSameStays() {
        Edges.stays("want(0, 4)", 4, b -> b.want(0, 4));
        Edges.stays("want(5, 64)", 64, b -> b.want(5, 64));
    }

    static void promise13_ofALandWithoutCells() {
        LandBoard b = new LandBoard();
        due("want(5, 9)", b.want(5, 9), 0);
        due("about(5, 3)", b.about(5, 3), 9);
        due("miss()", b.miss(), 0);
    }

    static void promise13_ofOneLandAlone() {
        LandBoard b = new LandBoard();
        b.want(3, 7);
        for (int land = 0; land < 6; land++) {
            due("about(" + land + ", 3)", b.about(land, 3), land == 3 ? 7 : 0);
        }
    }

    static void promise13_movesStay() {
        LandBoard b = Edges.busy();
        b.want(0, 1);
        due("count(3)", b.count(3), 3);
    }

    // ---- promise 14: miss

    static void promise14_noLands() {
        LandBoard b = new LandBoard();
        for (int land = 0; land < 6; land++) {
            b.want(land, 64);
        }
        due("miss()", b.miss(), 0);
    }

    static void promise14_aLandWithoutCellsDoesNotCount() {
        LandBoard b = laid("0");
        b.want(0, 1);
        b.want(1, 64);
        due("miss()", b.miss(), 0);
    }

    static void promise14_tooFewAndTooManyAreAdded() {
        LandBoard b = laid("0001");
        b.want(0, 1);
        b.want(1, 3);
        due("miss()", b.miss(), 4);
    }

    static void promise14_oneTooFew() {
        LandBoard b = laid("00");
        b.want(0, 3);
        due("miss()", b.miss(), 1);
    }

    static void promise14_oneTooMany() {
        LandBoard b = laid("00");
        b.want(0, 1);
        due("miss()", b.miss(), 1);
    }

    static void promise14_asManyAsWanted() {
        LandBoard b = laid("0011");
        b.want(0, 2);
        b.want(1, 2);
        due("miss()", b.miss(), 0);
    }

    static void promise14_nothingIsWanted() {
        due("miss()", laid("001", "55.").miss(), 5);
        due("the full board", Edges.full(0).miss(), 64);
    }

    static void promise14_theMost() {
        LandBoard b = laid("012345");
        for (int land = 0; land < 6; land++) {
            b.want(land, 64);
        }
        due("miss()", b.miss(), 378);
    }

    static void promise14_theFullBoardIsWanted() {
        LandBoard b = Edges.full(5);
        b.want(5, 64);
        due("miss()", b.miss(), 0);
    }

    static void promise14_nothingChanges() {
        Edges.stays("miss()", 2, LandBoard::miss);
    }

    // ---- promise 15: steps

    static void promise15_none() {
        Edges.bad("steps(0)", b -> b.steps(0));
    }

    static void promise15_fewerThanNone() {
        Edges.bad("steps(-1)", b -> b.steps(-1));
        Edges.bad("steps(least)", b -> b.steps(LEAST));
    }

    static void promise15_sixtyFive() {
        Edges.bad("steps(65)", b -> b.steps(65));
        Edges.bad("steps(most)", b -> b.steps(MOST));
    }

    private static LandBoard twoLands(int first, int second) {
        LandBoard b = laid("000111", "000111");
        b.want(0, first);
        b.want(1, second);
        return b;
    }

    static void promise15_one() {
        LandBoard b = twoLands(2, 10);
        due("steps(1)", b.steps(1), 1);
        due("size(0)", b.size(0), 5);
        due("count(4)", b.count(4), 1);
    }

    static void promise15_noMoreThanTold() {
        LandBoard b = twoLands(2, 10);
        due("steps(3)", b.steps(3), 3);
        due("size(0)", b.size(0), 3);
        due("count(4)", b.count(4), 3);
    }

    static void promise15_justAsManyAsThereAre() {
        LandBoard b = twoLands(2, 10);
        due("steps(4)", b.steps(4), 4);
        due("miss()", b.miss(), 0);
        due("steps(1)", b.steps(1), 0);
    }

    static void promise15_fewerThanTold() {
        LandBoard b = twoLands(2, 10);
        due("steps(5)", b.steps(5), 4);
        due("size(0)", b.size(0), 2);
    }

    static void promise15_sixtyFour() {
        LandBoard b = twoLands(2, 10);
        due("steps(64)", b.steps(64), 4);
        due("miss()", b.miss(), 0);
    }

    private static LandBoard allButOne() {
        LandBoard b = Edges.full(0);
        b.set(7, 7, 1);
        b.want(0, 1);
        b.want(1, 63);
        return b;
    }

    static void promise15_theMostThereAre() {
        LandBoard b = allButOne();
        due("steps(64)", b.steps(64), 62);
        due("size(0)", b.size(0), 1);
        due("size(1)", b.size(1), 63);
        due("at(6, 7)", b.at(6, 7), 0);
        due("miss()", b.miss(), 0);
    }

    static void promise15_sixtyOneOfSixtyTwo() {
        LandBoard b = allButOne();
        due("steps(61)", b.steps(61), 61);
        due("size(0)", b.size(0), 2);
        due("steps(64)", b.steps(64), 1);
    }

    static void promise15_theLastCellStays() {
        LandBoard b = laid("0001");
        b.want(0, 0);
        b.want(1, 4);
        due("steps(64)", b.steps(64), 2);
        Check.dueBoard("steps(64)", b, "0111");
    }

    static void promise15_noLands() {
        LandBoard b = new LandBoard();
        b.want(0, 5);
        due("steps(64)", b.steps(64), 0);
        Check.dueBoard("steps(64)", b, "....", "....", "....", "....");
    }

    static void promise15_oneLandAlone() {
        LandBoard b = laid("000", "0..");
        b.want(0, 6);
        due("more is wanted", b.steps(64), 0);
        b.want(0, 1);
        due("less is wanted", b.steps(64), 0);
        Check.dueBoard("steps(64)", b, "000", "0..");
    }

    static void promise15_aLandWithoutCellsWantsInVain() {
        LandBoard b = twoLands(6, 6);
        b.want(5, 64);
        due("steps(64)", b.steps(64), 0);
        Check.dueBoard("steps(64)", b, "000111", "000111");
    }

    static void promise15_missIsNought() {
        LandBoard b = twoLands(6, 6);
        due("steps(64)", b.steps(64), 0);
        due("count(4)", b.count(4), 0);
    }

    static void promise15_missWouldBeTheSame() {
        LandBoard b = twoLands(7, 7);
        due("both want more", b.steps(64), 0);
        b = twoLands(5, 5);
        due("both want less", b.steps(64), 0);
        b = twoLands(6, 9);
        due("one has what it wants", b.steps(64), 0);
        Check.dueBoard("steps(64)", b, "000111", "000111");
    }

    static void promise15_missBecomesLessByTheOneOnly() {
        LandBoard b = twoLands(5, 7);
        due("steps(64)", b.steps(64), 1);
        b = twoLands(7, 5);
        due("the other way", b.steps(64), 1);
        Check.dueBoard("the other way", b, "000011", "000111");
    }

    static void promise15_aHomeKeepsItsOwnCell() {
        LandBoard b = laid("0011");
        b.want(0, 1);
        b.want(1, 3);
        b.kind(0, 1, 1, 0);
        due("steps(64)", b.steps(64), 0);
        b.kind(0, 1, 0, 0);
        due("another own cell", b.steps(64), 1);
    }

    static void promise15_anOwnCellThatIsTheFirst() {
        LandBoard b = laid("01", "0.");
        b.want(0, 1);
        b.want(1, 2);
        b.kind(0, 1, 0, 0);
        due("as HOME", b.steps(64), 0);
        b.kind(0, 2, 0, 0);
        due("as SHORE", b.steps(64), 0);
        b.kind(0, 0, 0, 0);
        due("as LAND", b.steps(64), 1);
        Check.dueBoard("as LAND", b, "11", "0.");
    }

    static void promise15_anOwnCellThatIsTheLast() {
        LandBoard b = laid(".0", "10");
        b.want(0, 1);
        b.want(1, 2);
        b.kind(0, 1, 1, 1);
        due("as HOME", b.steps(64), 0);
        b.kind(0, 2, 1, 1);
        due("as SHORE", b.steps(64), 0);
        b.kind(0, 0, 0, 0);
        due("as LAND", b.steps(64), 1);
        Check.dueBoard("as LAND", b, ".0", "11");
    }

    static void promise15_aShoreWithoutSea() {
        LandBoard b = laid("11111", "10001", "11111");
        b.want(0, 1);
        b.want(1, 14);
        b.kind(0, 2, 3, 1);
        due("as SHORE", b.steps(64), 0);
        b.kind(0, 1, 3, 1);
        due("as HOME", b.steps(64), 2);
        Check.dueBoard("as HOME", b, "11111", "11101", "11111");
    }

    static void promise15_touchesStay() {
        LandBoard b = laid("102", "002");
        b.want(0, 2);
        b.want(1, 2);
        b.want(2, 2);
        due("the first cell beside may not", b.may(1, 0, 1), 0);
        due("steps(64)", b.steps(64), 1);
        Check.dueBoard("steps(64)", b, "102", "102");
    }

    static void promise15_theFirstCellIsByRows() {
        LandBoard b = laid("0001", "0001", "0001");
        b.want(0, 8);
        b.want(1, 4);
        due("steps(1)", b.steps(1), 1);
        Check.dueBoard("steps(1)", b, "0011", "0001", "0001");
    }

    static void promise15_theFirstCellOfARowIsByColumns() {
        LandBoard b = laid("1000", "1111");
        b.want(0, 2);
        b.want(1, 6);
        due("steps(1)", b.steps(1), 1);
        Check.dueBoard("steps(1)", b, "1100", "1111");
    }

    static void promise15_rowsStandAheadOfColumns() {
        LandBoard b = laid("1110", "1110", "1000");
        b.want(0, 4);
        b.want(1, 8);
        due("may(3, 0, 1)", b.may(3, 0, 1), 1);
        due("may(1, 2, 1)", b.may(1, 2, 1), 1);
        due("steps(1)", b.steps(1), 1);
        Check.dueBoard("steps(1)", b, "1111", "1110", "1000");
    }

    static void promise15_theLeastLandOfSeveral() {
        String[] rows = {"0211", "0211", "0222", "0011"};
        LandBoard b = laid(rows);
        due("may(1, 0, 0)", b.may(1, 0, 0), 1);
        due("may(1, 0, 1)", b.may(1, 0, 1), 1);
        b.want(0, 9);
        b.want(1, 9);
        b.want(2, 1);
        due("steps(1)", b.steps(1), 1);
        Check.dueBoard("steps(1)", b, "0011", "0211", "0222", "0011");
    }

    static void promise15_theCellStandsAheadOfTheLand() {
        LandBoard b = laid("2221", "2221", "0222");
        b.want(0, 2);
        b.want(1, 3);
        b.want(2, 7);
        due("steps(1)", b.steps(1), 1);
        Check.dueBoard("steps(1)", b, "2211", "2221", "0222");
    }

    static void promise15_oneTooManyIsAsGoodAsMany() {
        LandBoard b = laid("0011", "2222");
        b.want(0, 1);
        b.want(1, 5);
        b.want(2, 1);
        due("steps(1)", b.steps(1), 1);
        Check.dueBoard("steps(1)", b, "0111", "2222");
    }

    static void promise15_oneTooFewIsAsGoodAsMany() {
        LandBoard b = laid("0011", "2222");
        b.want(0, 3);
        b.want(1, 1);
        b.want(2, 9);
        due("steps(1)", b.steps(1), 1);
        Check.dueBoard("steps(1)", b, "0001", "2222");
    }

    static void promise15_theFirstCellOfTheLargest() {
        LandBoard b = laid("00000000", "1.......", "........", "........", "........", "........", "........",
            "........");
        b.want(0, 7);
        b.want(1, 2);
        due("steps(64)", b.steps(64), 1);
        due("at(0, 0)", b.at(0, 0), 1);
    }

    static void promise15_theLastCellOfTheLargest() {
        LandBoard b = laid("........", "........", "........", "........", "........", "........", ".......1",
            "00000000");
        b.want(0, 7);
        b.want(1, 2);
        due("steps(64)", b.steps(64), 1);
        due("at(7, 7)", b.at(7, 7), 1);
    }

    static void promise15_theLeastLandAndTheGreatest() {
        LandBoard b = laid("000555");
        b.want(0, 1);
        b.want(5, 5);
        due("to 5", b.steps(64), 2);
        Check.dueBoard("to 5", b, "055555");
        b.want(0, 5);
        b.want(5, 1);
        due("to 0", b.steps(64), 4);
        Check.dueBoard("to 0", b, "000005");
    }

    static void promise15_areKeptAndDone() {
        LandBoard b = twoLands(2, 10);
        b.steps(64);
        due("count(3)", b.count(3), 4);
        due("count(4)", b.count(4), 4);
        due("undo(100)", b.undo(100), 4);
        Check.dueBoard("undo(100)", b, "000111", "000111");
    }

    static void promise15_moreThanAHundredAreNotKept() {
        LandBoard b = allButOne();
        int done = b.steps(64);
        b.want(0, 63);
        b.want(1, 1);
        done += b.steps(64);
        due("more than a hundred", done > 100 ? 1 : 0, 1);
        due("count(4)", b.count(4), done);
        due("count(3)", b.count(3), 100);
        due("undo(100)", b.undo(100), 100);
        due("undo(1)", b.undo(1), 0);
        due("size(1)", b.size(1), 1 + done - 100);
    }

    // ---- promise 16: undo

    static void promise16_none() {
        Edges.bad("undo(0)", b -> b.undo(0));
    }

    static void promise16_fewerThanNone() {
        Edges.bad("undo(-1)", b -> b.undo(-1));
        Edges.bad("undo(least)", b -> b.undo(LEAST));
    }

    static void promise16_aHundredAndOne() {
        Edges.bad("undo(101)", b -> b.undo(101));
        Edges.bad("undo(most)", b -> b.undo(MOST));
    }

    static void promise16_noMovesAreKept() {
        LandBoard b = laid("01");
        due("undo(1)", b.undo(1), 0);
        due("undo(100)", b.undo(100), 0);
        due("count(3)", b.count(3), 0);
        Check.dueBoard("undo(100)", b, "01");
    }

    static void promise16_one() {
        LandBoard b = Edges.busy();
        due("undo(1)", b.undo(1), 1);
        due("count(3)", b.count(3), 2);
        Check.dueBoard("undo(1)", b, "0111.", "0011.", "02233", "22233");
    }

    static void promise16_theLatestFirst() {
        LandBoard b = Edges.busy();
        b.undo(1);
        due("undo(1)", b.undo(1), 1);
        Check.dueBoard("undo(1)", b, "0111.", "0011.", "22233", "22233");
        due("undo(1)", b.undo(1), 1);
        Check.dueBoard("undo(1)", b, "0011.", "0011.", "22233", "22233");
    }

    static void promise16_justAsManyAsAreKept() {
        LandBoard b = Edges.busy();
        due("undo(3)", b.undo(3), 3);
        due("count(3)", b.count(3), 0);
        due("undo(1)", b.undo(1), 0);
    }

    static void promise16_moreThanAreKept() {
        LandBoard b = Edges.busy();
        due("undo(4)", b.undo(4), 3);
        Check.dueBoard("undo(4)", b, "0011.", "0011.", "22233", "22233");
    }

    static void promise16_aCellThatMovedTwice() {
        LandBoard b = laid("0001", "0001");
        b.move(2, 0, 1);
        b.move(2, 0, 0);
        due("undo(1)", b.undo(1), 1);
        Check.dueBoard("undo(1)", b, "0011", "0001");
        due("undo(1)", b.undo(1), 1);
        Check.dueBoard("undo(1)", b, "0001", "0001");
    }

    static void promise16_movesDoneStay() {
        LandBoard b = Edges.busy();
        b.undo(2);
        due("count(4)", b.count(4), 3);
        b.undo(100);
        due("count(4)", b.count(4), 3);
    }

    static void promise16_kindsWantedYearsTraceStay() {
        LandBoard b = Edges.busy();
        b.undo(100);
        due("about(0, 0)", b.about(0, 0), 1);
        due("about(2, 0)", b.about(2, 0), 2);
        due("about(2, 2)", b.about(2, 2), 3);
        due("about(1, 3)", b.about(1, 3), 5);
        due("moved(0, 2)", b.moved(0, 2), 1);
        due("trace()", b.trace(), 12);
    }

    static void promise16_anOwnCellGoesBackToo() {
        LandBoard b = laid("0001", "0001");
        b.move(2, 0, 1);
        b.kind(1, 1, 2, 0);
        due("may(2, 0, 0)", b.may(2, 0, 0), 0);
        due("undo(1)", b.undo(1), 1);
        Check.dueBoard("undo(1)", b, "0001", "0001");
        due("about(1, 0)", b.about(1, 0), 1);
    }

    static void promise16_whatIsTakenBackIsNotKept() {
        LandBoard b = laid("0001", "0001");
        b.move(2, 0, 1);
        b.undo(1);
        due("undo(1)", b.undo(1), 0);
        b.move(2, 1, 1);
        due("undo(100)", b.undo(100), 1);
        Check.dueBoard("undo(100)", b, "0001", "0001");
    }

    static void promise16_refusedMovesAreNotKept() {
        LandBoard b = laid("0001", "0001");
        b.move(2, 0, 1);
        due("move(0, 0, 1)", b.move(0, 0, 1), STATE);
        due("undo(100)", b.undo(100), 1);
        Check.dueBoard("undo(100)", b, "0001", "0001");
    }

    /** Four moves that go round: behind as many moves the board is as told by the number's rest by four. */
    private static void round(LandBoard b, int from, int to) {
        for (int k = from; k < to; k++) {
            int land = k % 4 < 2 ? 1 : 0;
            due("move " + k, b.move(2, k % 2, land), 1 - land);
        }
    }

    private static void dueRound(String when, LandBoard b, int moves) {
        int rest = moves % 4;
        due(when + ", at(2, 0)", b.at(2, 0), rest == 1 || rest == 2 ? 1 : 0);
        due(when + ", at(2, 1)", b.at(2, 1), rest == 2 || rest == 3 ? 1 : 0);
    }

    static void promise16_aHundredAreKept() {
        LandBoard b = laid("0001", "0001");
        round(b, 0, 99);
        due("count(3)", b.count(3), 99);
        round(b, 99, 100);
        due("count(3)", b.count(3), 100);
        due("undo(100)", b.undo(100), 100);
        dueRound("undo(100)", b, 0);
        due("undo(1)", b.undo(1), 0);
    }

    static void promise16_ofAHundredAndOneTheFirstIsNotKept() {
        LandBoard b = laid("0001", "0001");
        round(b, 0, 101);
        due("count(3)", b.count(3), 100);
        due("count(4)", b.count(4), 101);
        due("undo(100)", b.undo(100), 100);
        dueRound("undo(100)", b, 1);
        due("undo(1)", b.undo(1), 0);
    }

    static void promise16_oneByOneTheLatestHundred() {
        LandBoard b = laid("0001", "0001");
        round(b, 0, 110);
        for (int moves = 109; moves >= 10; moves--) {
            due("undo(1)", b.undo(1), 1);
            dueRound("undo(1)", b, moves);
        }
        due("undo(1)", b.undo(1), 0);
        dueRound("undo(1)", b, 10);
    }

    static void promise16_theHundredWrapAroundThrice() {
        LandBoard b = laid("0001", "0001");
        round(b, 0, 333);
        due("count(3)", b.count(3), 100);
        due("undo(99)", b.undo(99), 99);
        dueRound("undo(99)", b, 234);
        due("undo(100)", b.undo(100), 1);
        dueRound("undo(100)", b, 233);
    }

    static void promise16_movesGoOnBehindUndo() {
        LandBoard b = laid("0001", "0001");
        round(b, 0, 110);
        due("undo(60)", b.undo(60), 60);
        round(b, 50, 80);
        due("count(3)", b.count(3), 70);
        due("undo(100)", b.undo(100), 70);
        dueRound("undo(100)", b, 10);
        round(b, 10, 115);
        due("count(3)", b.count(3), 100);
        due("undo(100)", b.undo(100), 100);
        dueRound("undo(100)", b, 15);
    }

    static void promise16_noMovesAreKeptBehindANewBoard() {
        LandBoard b = Edges.busy();
        b.board(5, 4);
        due("undo(100)", b.undo(100), 0);
        Check.dueBoard("undo(100)", b, ".....", ".....", ".....", ".....");
    }

    static void promise16_noMovesAreKeptBehindSet() {
        LandBoard b = Edges.busy();
        b.set(4, 0, SEA);
        due("undo(100)", b.undo(100), 0);
        Check.dueBoard("undo(100)", b, "0111.", "0021.", "02233", "22233");
    }

    static void promise16_noMovesAreKeptBehindAYear() {
        LandBoard b = Edges.busy();
        b.back(2);
        due("undo(100)", b.undo(100), 0);
        Check.dueBoard("undo(100)", b, "0111.", "0011.", "22233", "22233");
    }

    // ---- promise 17: label

    static void promise17_landTooSmall() {
        Edges.bad("label(-1, 0)", b -> b.label(-1, 0));
        Edges.bad("label(least, 0)", b -> b.label(LEAST, 0));
    }

    static void promise17_landTooLarge() {
        Edges.bad("label(6, 0)", b -> b.label(6, 0));
        Edges.bad("label(most, 0)", b -> b.label(MOST, 0));
    }

    static void promise17_seaHasNoLabel() {
        Edges.bad("label(SEA, 0)", b -> b.label(SEA, 0));
    }

    static void promise17_whatTooSmall() {
        Edges.bad("label(0, -1)", b -> b.label(0, -1));
        Edges.bad("label(0, least)", b -> b.label(0, LEAST));
    }

    static void promise17_whatTooLarge() {
        Edges.bad("label(0, 3)", b -> b.label(0, 3));
        Edges.bad("label(0, most)", b -> b.label(0, MOST));
    }

    static void promise17_noCell() {
        Edges.stays("label(5, 0)", NONE, b -> b.label(5, 0));
        Edges.stays("label(5, 1)", NONE, b -> b.label(5, 1));
        Edges.stays("label(5, 2)", NONE, b -> b.label(5, 2));
    }

    static void promise17_badStandsAheadOfNone() {
        Edges.bad("label(5, 3)", b -> b.label(5, 3));
        Edges.bad("label(5, -1)", b -> b.label(5, -1));
    }

    private static void dueLabel(LandBoard b, int land, int x, int y, int far) {
        due("label(" + land + ", 0)", b.label(land, 0), x);
        due("label(" + land + ", 1)", b.label(land, 1), y);
        due("label(" + land + ", 2)", b.label(land, 2), far);
    }

    static void promise17_oneCell() {
        dueLabel(laid("5"), 5, 0, 0, 1);
        dueLabel(laid("...", "...", "..4"), 4, 2, 2, 1);
    }

    static void promise17_theFirstCellAndTheLastOfTheLargest() {
        LandBoard b = Edges.full(0);
        b.set(0, 0, 1);
        b.set(7, 7, 2);
        dueLabel(b, 1, 0, 0, 1);
        dueLabel(b, 2, 7, 7, 1);
    }

    static void promise17_theOutsideCounts() {
        dueLabel(laid("000", "000"), 0, 0, 0, 1);
        dueLabel(laid("000", "000", "000"), 0, 1, 1, 2);
    }

    static void promise17_eachSideOfTheOutsideCounts() {
        dueLabel(laid("0000", "0000", "0000", "...."), 0, 1, 1, 2);
        dueLabel(laid("....", "0000", "0000", "0000"), 0, 1, 2, 2);
        dueLabel(laid("000.", "000.", "000.", "000."), 0, 1, 1, 2);
        dueLabel(laid(".000", ".000", ".000", ".000"), 0, 2, 1, 2);
    }

    static void promise17_theFullBoard() {
        dueLabel(Edges.full(0), 0, 3, 3, 4);
    }

    static void promise17_theFirstIsByRows() {
        dueLabel(laid(".1", "11"), 1, 1, 0, 1);
        dueLabel(laid("0000", "0000", "0000", "0000"), 0, 1, 1, 2);
    }

    static void promise17_cornersAreNotSteps() {
        dueLabel(laid(".00", "000", "000"), 0, 1, 1, 2);
        dueLabel(laid(".000.", "00000", "00000", "00000", ".000."), 0, 2, 2, 3);
    }

    static void promise17_anotherLandIsNotOfIt() {
        dueLabel(laid("00000", "00000", "00100", "00000", "00000"), 0, 1, 1, 2);
        dueLabel(laid("00000", "00000", "00.00", "00000", "00000"), 0, 1, 1, 2);
    }

    static void promise17_theFarthestIsNotTheFirst() {
        dueLabel(laid("0.....", "0.000.", "0.000.", "00000.", "......"), 0, 3, 2, 2);
    }

    static void promise17_twoPiecesApart() {
        dueLabel(laid("000....", "....000", "....000", "....000"), 0, 5, 2, 2);
    }

    static void promise17_theSidesOfTheBoardDoNotJoin() {
        LandBoard b = laid("00000000", "00000000", "00000000");
        dueLabel(b, 0, 1, 1, 2);
        dueLabel(laid("000", "000", "000", "000", "000", "000", "000", "000"), 0, 1, 1, 2);
        dueLabel(laid("00000000", "00000000"), 0, 0, 0, 1);
    }

    static void promise17_nothingChanges() {
        Edges.stays("label(1, 0)", 1, b -> b.label(1, 0));
        Edges.stays("label(1, 1)", 0, b -> b.label(1, 1));
        Edges.stays("label(1, 2)", 1, b -> b.label(1, 2));
    }
}
