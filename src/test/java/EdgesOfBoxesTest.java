/** Promises 18 to 25: each edge that the document names, and each refused call, a test of its own. */
final class EdgesOfBoxesTest {
    private static final int BAD = Edges.BAD, STATE = Edges.STATE, SEA = Edges.SEA, NONE = Edges.NONE;
    private static final int MOST = Edges.MOST, LEAST = Edges.LEAST;

    private EdgesOfBoxesTest() {
    }

    public static void main(String[] args) throws IllegalAccessException {
        Edges.runAll(EdgesOfBoxesTest.class, 18, 25);
    }

    private static void due(String call, long got, long want) {
        Check.due(call, got, want);
    }

    private static LandBoard laid(String... rows) {
        return Check.laid(rows);
    }

    // ---- promise 18: longer

    static void promise18_cutsBelowNought() {
        Edges.bad("longer(-1, 0, 0)", b -> b.longer(-1, 0, 0));
        Edges.bad("longer(-8, 0, 0)", b -> b.longer(-8, 0, 0));
        Edges.bad("longer(least, 0, 0)", b -> b.longer(LEAST, 0, 0));
    }

    static void promise18_aBitBehindTheLastLand() {
        Edges.bad("longer(8, 0, 0)", b -> b.longer(8, 0, 0));
        Edges.bad("longer(9, 0, 0)", b -> b.longer(9, 0, 0));
        Edges.bad("longer(15, 0, 0)", b -> b.longer(15, 0, 0));
    }

    static void promise18_aBitFarBehindTheLastLand() {
        Edges.bad("longer(32, 0, 0)", b -> b.longer(32, 0, 0));
        Edges.bad("longer(1 << 30, 0, 0)", b -> b.longer(1 << 30, 0, 0));
        Edges.bad("longer(most, 0, 0)", b -> b.longer(MOST, 0, 0));
    }

    static void promise18_allBits() {
        Edges.stays("longer(7, 0, 0)", 9, b -> b.longer(7, 0, 0));
        Edges.stays("longer(7, 0, 1)", 2, b -> b.longer(7, 0, 1));
    }

    static void promise18_landTooSmall() {
        Edges.bad("longer(0, -1, 0)", b -> b.longer(0, -1, 0));
        Edges.bad("longer(0, least, 0)", b -> b.longer(0, LEAST, 0));
    }

    static void promise18_landTooLarge() {
        Edges.bad("longer(0, 6, 0)", b -> b.longer(0, 6, 0));
        Edges.bad("longer(0, most, 0)", b -> b.longer(0, MOST, 0));
    }

    static void promise18_seaHasNoBox() {
        Edges.bad("longer(0, SEA, 0)", b -> b.longer(0, SEA, 0));
    }

    static void promise18_aLandWithoutCells() {
        Edges.bad("longer(0, 4, 0)", b -> b.longer(0, 4, 0));
        Edges.bad("longer(0, 5, 1)", b -> b.longer(0, 5, 1));
    }

    static void promise18_partTooSmall() {
        Edges.bad("longer(0, 0, -1)", b -> b.longer(0, 0, -1));
        Edges.bad("longer(0, 0, least)", b -> b.longer(0, 0, LEAST));
    }

    static void promise18_partTooLarge() {
        Edges.bad("longer(0, 0, 2)", b -> b.longer(0, 0, 2));
        Edges.bad("longer(0, 0, most)", b -> b.longer(0, 0, MOST));
    }

    static void promise18_noLands() {
        LandBoard b = new LandBoard();
        for (int land = 0; land < 6; land++) {
            due("longer(0, " + land + ", 0)", b.longer(0, land, 0), BAD);
        }
    }

    static void promise18_oneLandHasNoBit() {
        LandBoard b = laid("44");
        due("longer(0, 4, 0)", b.longer(0, 4, 0), 1);
        due("longer(0, 4, 1)", b.longer(0, 4, 1), 1);
        due("longer(1, 4, 0)", b.longer(1, 4, 0), BAD);
    }

    static void promise18_twoLandsHaveOneBit() {
        LandBoard b = laid("45");
        due("longer(1, 5, 0)", b.longer(1, 5, 0), 2);
        due("longer(1, 5, 1)", b.longer(1, 5, 1), 1);
        due("longer(2, 5, 0)", b.longer(2, 5, 0), BAD);
        due("longer(3, 5, 0)", b.longer(3, 5, 0), BAD);
    }

    static void promise18_sixLandsHaveFiveBits() {
        LandBoard b = laid("012345");
        due("longer(31, 5, 0)", b.longer(31, 5, 0), 6);
        due("longer(16, 5, 0)", b.longer(16, 5, 0), 6);
        due("longer(32, 5, 0)", b.longer(32, 5, 0), BAD);
        due("longer(33, 5, 0)", b.longer(33, 5, 0), BAD);
    }

    static void promise18_bitsCountLandsThatHaveCells() {
        LandBoard b = laid("0055");
        due("longer(1, 5, 0)", b.longer(1, 5, 0), 2);
        due("longer(16, 5, 0)", b.longer(16, 5, 0), BAD);
        b.set(1, 0, 3);
        due("longer(3, 5, 0)", b.longer(3, 5, 0), 2);
        due("longer(2, 3, 0)", b.longer(2, 3, 0), 1);
    }

    static void promise18_aSquare() {
        LandBoard b = laid("0012");
        due("upper", b.longer(1, 1, 0), 1);
        due("lower", b.longer(1, 1, 1), 1);
    }

    static void promise18_theGreaterSideIsTheHeight() {
        LandBoard b = laid("0001");
        due("upper", b.longer(0, 0, 0), 4);
        due("lower", b.longer(0, 0, 1), 3);
    }

    static void promise18_theGreaterSideIsTheWidth() {
        LandBoard b = laid("0001");
        due("upper", b.longer(1, 0, 0), 4);
        due("lower", b.longer(1, 0, 1), 3);
        due("upper of the other", b.longer(1, 1, 0), 4);
        due("lower of the other", b.longer(1, 1, 1), 1);
    }

    static void promise18_inLeastForm() {
        LandBoard b = laid("000011", "2222..");
        due("upper", b.longer(0, 0, 0), 5);
        due("lower", b.longer(0, 0, 1), 2);
        due("upper in a row of two", b.longer(2, 0, 0), 10);
        due("lower in a row of two", b.longer(2, 0, 1), 9);
    }

    static void promise18_theLongest() {
        LandBoard b = Edges.full(0);
        b.set(7, 7, 1);
        due("upper", b.longer(0, 1, 0), 64);
        due("lower", b.longer(0, 1, 1), 1);
        due("upper of the other", b.longer(1, 0, 0), 64);
        due("lower of the other", b.longer(1, 0, 1), 63);
    }

    static void promise18_aRowBeginsBehindTheCut() {
        LandBoard b = laid("0123");
        due("two and two, the second", b.longer(2, 1, 0), 1);
        due("two and two, the third", b.longer(2, 2, 0), 1);
        due("one and three, the first", b.longer(1, 0, 0), 4);
        due("one and three, the second, upper", b.longer(1, 1, 0), 9);
        due("one and three, the second, lower", b.longer(1, 1, 1), 4);
        due("three and one, the last", b.longer(4, 3, 0), 4);
    }

    static void promise18_nothingChanges() {
        Edges.stays("longer(0, 0, 0)", 9, b -> b.longer(0, 0, 0));
        Edges.stays("longer(0, 0, 1)", 2, b -> b.longer(0, 0, 1));
    }

    // ---- promise 19: box

    static void promise19_cutsBelowNought() {
        Edges.bad("box(-1, 0, 0)", b -> b.box(-1, 0, 0));
        Edges.bad("box(least, 0, 0)", b -> b.box(LEAST, 0, 0));
    }

    static void promise19_aBitBehindTheLastLand() {
        Edges.bad("box(8, 0, 0)", b -> b.box(8, 0, 0));
        Edges.bad("box(15, 0, 0)", b -> b.box(15, 0, 0));
    }

    static void promise19_aBitFarBehindTheLastLand() {
        Edges.bad("box(32, 0, 0)", b -> b.box(32, 0, 0));
        Edges.bad("box(1 << 30, 0, 0)", b -> b.box(1 << 30, 0, 0));
        Edges.bad("box(most, 0, 0)", b -> b.box(MOST, 0, 0));
    }

    static void promise19_allBits() {
        Edges.stays("box(7, 1, 1)", 222, b -> b.box(7, 1, 1));
        Edges.stays("box(7, 3, 3)", 222, b -> b.box(7, 3, 3));
    }

    static void promise19_landTooSmall() {
        Edges.bad("box(0, -1, 0)", b -> b.box(0, -1, 0));
        Edges.bad("box(0, least, 0)", b -> b.box(0, LEAST, 0));
    }

    static void promise19_landTooLarge() {
        Edges.bad("box(0, 6, 0)", b -> b.box(0, 6, 0));
        Edges.bad("box(0, most, 0)", b -> b.box(0, MOST, 0));
    }

    static void promise19_seaHasNoBox() {
        Edges.bad("box(0, SEA, 0)", b -> b.box(0, SEA, 0));
    }

    static void promise19_aLandWithoutCells() {
        Edges.bad("box(0, 4, 0)", b -> b.box(0, 4, 0));
        Edges.bad("box(0, 5, 3)", b -> b.box(0, 5, 3));
    }

    static void promise19_whatTooSmall() {
        Edges.bad("box(0, 0, -1)", b -> b.box(0, 0, -1));
        Edges.bad("box(0, 0, least)", b -> b.box(0, 0, LEAST));
    }

    static void promise19_whatTooLarge() {
        Edges.bad("box(0, 0, 4)", b -> b.box(0, 0, 4));
        Edges.bad("box(0, 0, most)", b -> b.box(0, 0, MOST));
    }

    static void promise19_noLands() {
        LandBoard b = new LandBoard();
        for (int land = 0; land < 6; land++) {
            due("box(0, " + land + ", 2)", b.box(0, land, 2), BAD);
        }
    }

    private static void dueBox(LandBoard b, int cuts, int land, int... sides) {
        for (int what = 0; what < 4; what++) {
            due("box(" + cuts + ", " + land + ", " + what + ")", b.box(cuts, land, what), sides[what]);
        }
    }

    static void promise19_oneLandIsTheWholeBox() {
        LandBoard b = laid("44");
        dueBox(b, 0, 4, 0, 0, 1000, 1000);
        due("box(1, 4, 0)", b.box(1, 4, 0), BAD);
    }

    static void promise19_twoLandsHaveOneBit() {
        LandBoard b = laid("45");
        dueBox(b, 1, 5, 0, 500, 1000, 500);
        due("box(2, 5, 0)", b.box(2, 5, 0), BAD);
    }

    static void promise19_sixLandsHaveFiveBits() {
        LandBoard b = laid("012345");
        dueBox(b, 31, 5, 0, 833, 1000, 166);
        due("box(32, 5, 0)", b.box(32, 5, 0), BAD);
    }

    static void promise19_theFirstBoxIsLeftAndAbove() {
        LandBoard b = laid("0123");
        for (int cuts = 0; cuts < 8; cuts++) {
            due("left of 0 by " + cuts, b.box(cuts, 0, 0), 0);
            due("above 0 by " + cuts, b.box(cuts, 0, 1), 0);
        }
    }

    static void promise19_theFirstOfARowIsLeft() {
        dueBox(laid("0123"), 2, 2, 0, 500, 500, 500);
        dueBox(laid("0123"), 2, 3, 500, 500, 500, 500);
    }

    static void promise19_roundedDown() {
        LandBoard b = laid("012");
        dueBox(b, 0, 1, 333, 0, 333, 1000);
        dueBox(b, 0, 2, 666, 0, 333, 1000);
        dueBox(b, 3, 1, 0, 333, 1000, 333);
        dueBox(b, 3, 2, 0, 666, 1000, 333);
    }

    static void promise19_leftAndAboveAreNotRoundedTwice() {
        dueBox(laid("0123444"), 0, 4, 571, 0, 428, 1000);
        dueBox(laid("0123444"), 15, 4, 0, 571, 1000, 428);
    }

    static void promise19_theNarrowest() {
        LandBoard b = Edges.full(0);
        b.set(7, 7, 1);
        dueBox(b, 0, 1, 984, 0, 15, 1000);
        dueBox(b, 1, 1, 0, 984, 1000, 15);
    }

    static void promise19_seaHasNoWeight() {
        dueBox(laid("0....5", "......"), 0, 5, 500, 0, 500, 1000);
    }

    static void promise19_nothingChanges() {
        Edges.stays("box(0, 1, 0)", 222, b -> b.box(0, 1, 0));
        Edges.stays("box(7, 2, 1)", 444, b -> b.box(7, 2, 1));
        Edges.stays("box(0, 2, 2)", 333, b -> b.box(0, 2, 2));
        Edges.stays("box(7, 2, 3)", 333, b -> b.box(7, 2, 3));
    }

    // ---- promise 20: best

    static void promise20_noLands() {
        due("new", new LandBoard().best(), NONE);
        LandBoard b = laid("0");
        b.set(0, 0, SEA);
        due("the last land is gone", b.best(), NONE);
    }

    static void promise20_oneLand() {
        due("land 5", laid("5").best(), 0);
        due("the full board", Edges.full(0).best(), 0);
    }

    static void promise20_twoAreAlikeEitherWay() {
        due("one and one", laid("05").best(), 0);
        due("one and seven", laid("05555555").best(), 0);
    }

    static void promise20_ofSeveralTheLeast() {
        due("three alike", laid("012").best(), 0);
        due("six alike: two rows or three", laid("012345").best(), 4);
    }

    static void promise20_theFirstBit() {
        due("two and one and one", laid("0012").best(), 1);
    }

    static void promise20_theLastBit() {
        due("one and one and two", laid("0122").best(), 2);
    }

    static void promise20_theGreatestLongIsLooked() {
        due("four alike", laid("0123").best(), 2);
        due("five alike", laid("01234").best(), 2);
    }

    static void promise20_eachPlaceMayBeTheLongest() {
        due("the first", laid("01111", "2222.").best(), 2);
        due("the second", laid("00001", "2222.").best(), 1);
        due("the last", laid("00001", "1112.").best(), 1);
    }

    static void promise20_bitsCountLandsThatHaveCells() {
        due("lands 0, 3, 5", laid("0035").best(), 1);
    }

    static void promise20_fewerLandsThanAhead() {
        LandBoard b = laid("01234", "55555");
        b.best();
        Check.lay(b, "012");
        due("three alike", b.best(), 0);
        Check.lay(b, "01234", "55555");
        b.box(16, 5, 0);
        Check.lay(b, "0123");
        due("four alike", b.best(), 2);
        Check.lay(b, "01234", "55555");
        b.longer(31, 5, 0);
        Check.lay(b, "0012");
        due("two and one and one", b.best(), 1);
        Check.lay(b, "0123333", "3333333");
        b.best();
        Check.lay(b, "0122");
        due("one and one and two", b.best(), 2);
    }

    static void promise20_nothingChanges() {
        Edges.stays("best()", 2, LandBoard::best);
    }

    // ---- promise 21: keep

    static void promise21_yearTooSmall() {
        Edges.bad("keep(-1)", b -> b.keep(-1));
        Edges.bad("keep(least)", b -> b.keep(LEAST));
    }

    static void promise21_yearTooLarge() {
        Edges.bad("keep(4)", b -> b.keep(4));
        Edges.bad("keep(most)", b -> b.keep(MOST));
    }

    static void promise21_theFirstYearAndTheLast() {
        LandBoard b = laid("01");
        due("keep(0)", b.keep(0), 2);
        due("keep(3)", b.keep(3), 2);
        due("moved(0, 3)", b.moved(0, 3), 0);
        due("moved(1, 2)", b.moved(1, 2), NONE);
    }

    static void promise21_allFourYearsAreApart() {
        LandBoard b = laid("0000", "0000");
        for (int year = 0; year < 4; year++) {
            due("keep(" + year + ")", b.keep(year), 8);
            b.set(year, 0, 5);
        }
        for (int one = 0; one < 4; one++) {
            for (int other = 0; other < 4; other++) {
                due("moved(" + one + ", " + other + ")", b.moved(one, other), Math.abs(one - other));
            }
        }
        for (int year = 3; year >= 0; year--) {
            due("back(" + year + ")", b.back(year), 8);
            due("size(5) in year " + year, b.size(5), year);
        }
    }

    static void promise21_allSea() {
        LandBoard b = new LandBoard();
        due("keep(1)", b.keep(1), 0);
        due("moved(1, 1)", b.moved(1, 1), 0);
        due("back(1)", b.back(1), 0);
    }

    static void promise21_theFullBoard() {
        due("keep(2)", Edges.full(5).keep(2), 64);
    }

    static void promise21_oneCell() {
        due("keep(2)", laid("...", "..5").keep(2), 1);
    }

    static void promise21_aYearIsKeptAnew() {
        LandBoard b = laid("00");
        b.keep(1);
        b.set(0, 0, 4);
        due("keep(1)", b.keep(1), 2);
        b.set(1, 0, 3);
        due("back(1)", b.back(1), 2);
        Check.dueBoard("back(1)", b, "40");
    }

    static void promise21_aYearIsKeptAnewInAnotherSize() {
        LandBoard b = Edges.full(0);
        b.keep(1);
        Check.lay(b, "12", "..");
        due("keep(1)", b.keep(1), 2);
        b.board(8, 8);
        due("back(1)", b.back(1), 2);
        Check.dueBoard("back(1)", b, "12", "..");
    }

    static void promise21_theYearStaysWhenTheBoardChanges() {
        LandBoard b = laid("0001", "0001");
        b.keep(1);
        b.move(2, 0, 1);
        b.set(0, 0, SEA);
        b.back(1);
        Check.dueBoard("back(1)", b, "0001", "0001");
    }

    static void promise21_boardKindsMovesStay() {
        LandBoard b = Edges.busy();
        due("keep(1)", b.keep(1), 18);
        due("count(3)", b.count(3), 3);
        due("about(0, 0)", b.about(0, 0), 1);
        due("about(2, 0)", b.about(2, 0), 2);
        due("moved(0, 2)", b.moved(0, 2), 1);
        due("undo(100)", b.undo(100), 3);
        Check.dueBoard("undo(100)", b, "0011.", "0011.", "22233", "22233");
    }

    // ---- promise 22: back

    static void promise22_yearTooSmall() {
        Edges.bad("back(-1)", b -> b.back(-1));
        Edges.bad("back(least)", b -> b.back(LEAST));
    }

    static void promise22_yearTooLarge() {
        Edges.bad("back(4)", b -> b.back(4));
        Edges.bad("back(most)", b -> b.back(MOST));
    }

    static void promise22_badStandsAheadOfState() {
        due("back(4)", new LandBoard().back(4), BAD);
        due("back(-1)", new LandBoard().back(-1), BAD);
    }

    static void promise22_aYearThatWasNotKept() {
        Edges.state("back(1)", b -> b.back(1));
        Edges.state("back(3)", b -> b.back(3));
    }

    static void promise22_theFirstYearAndTheLast() {
        LandBoard b = laid("01");
        b.keep(3);
        b.set(0, 0, 5);
        b.keep(0);
        due("back(3)", b.back(3), 2);
        Check.dueBoard("back(3)", b, "01");
        due("back(0)", b.back(0), 2);
        Check.dueBoard("back(0)", b, "51");
    }

    static void promise22_allSea() {
        LandBoard b = new LandBoard();
        b.keep(0);
        Check.lay(b, "01", "23");
        due("back(0)", b.back(0), 0);
        Check.dueBoard("back(0)", b, "....", "....", "....", "....");
    }

    static void promise22_theFullBoard() {
        LandBoard b = Edges.full(5);
        b.keep(0);
        b.board(1, 1);
        due("back(0)", b.back(0), 64);
        due("size(5)", b.size(5), 64);
        due("at(7, 7)", b.at(7, 7), 5);
    }

    static void promise22_aSmallerBoard() {
        LandBoard b = laid("010");
        b.keep(0);
        Check.lay(b, "00000", "00000", "00100", "00000");
        due("back(0)", b.back(0), 3);
        Check.dueBoard("back(0)", b, "010");
        due("at(0, 1)", b.at(0, 1), BAD);
        due("the edge", b.touch(1, SEA), 1);
    }

    static void promise22_aLargerBoard() {
        LandBoard b = laid("00000", "00000", "00100", "00000");
        b.keep(0);
        Check.lay(b, "010");
        due("back(0)", b.back(0), 20);
        due("count(0)", b.count(0), 5);
        due("count(1)", b.count(1), 4);
        due("the edge", b.touch(1, SEA), 0);
    }

    static void promise22_theEdgesOfALargerBoard() {
        LandBoard b = laid("00000", "02003", "00000", "00100");
        b.keep(0);
        b.board(2, 2);
        b.back(0);
        due("the last row", b.touch(1, SEA), 1);
        due("the last column", b.touch(3, SEA), 1);
        due("within", b.touch(2, SEA), 0);
    }

    static void promise22_aLakeOfALargerBoard() {
        LandBoard b = laid("00000", "00000", "001.0", "00000", "00000");
        b.keep(0);
        b.board(2, 2);
        b.back(0);
        due("at the lake", b.touch(1, SEA), 1);
    }

    static void promise22_kindsAreTheFirst() {
        LandBoard b = Edges.busy();
        b.keep(3);
        b.back(3);
        for (int land = 0; land < 6; land++) {
            due("about(" + land + ", 0)", b.about(land, 0), 0);
            due("about(" + land + ", 1)", b.about(land, 1), NONE);
            due("about(" + land + ", 2)", b.about(land, 2), NONE);
        }
    }

    static void promise22_noMovesAreKept() {
        LandBoard b = Edges.busy();
        b.back(0);
        due("count(3)", b.count(3), 0);
        due("undo(1)", b.undo(1), 0);
    }

    static void promise22_noMovesAreKeptBehindTheSameBoard() {
        LandBoard b = Edges.busy();
        b.keep(3);
        due("back(3)", b.back(3), 18);
        due("count(3)", b.count(3), 0);
        due("undo(1)", b.undo(1), 0);
    }

    static void promise22_movesDoneWantedTraceStay() {
        LandBoard b = Edges.busy();
        b.back(0);
        due("count(4)", b.count(4), 3);
        due("about(5, 3)", b.about(5, 3), 64);
        due("about(0, 3)", b.about(0, 3), 4);
        due("trace()", b.trace(), 12);
    }

    static void promise22_yearsStay() {
        LandBoard b = Edges.busy();
        b.back(0);
        due("moved(0, 2)", b.moved(0, 2), 1);
        b.set(0, 0, 5);
        b.set(4, 0, 5);
        due("back(0)", b.back(0), 18);
        Check.dueBoard("back(0)", b, "0011.", "0011.", "22233", "22233");
        due("back(1)", b.back(1), STATE);
    }

    // ---- promise 23: moved

    static void promise23_oneTooSmall() {
        Edges.bad("moved(-1, 0)", b -> b.moved(-1, 0));
        Edges.bad("moved(least, 0)", b -> b.moved(LEAST, 0));
    }

    static void promise23_oneTooLarge() {
        Edges.bad("moved(4, 0)", b -> b.moved(4, 0));
        Edges.bad("moved(most, 0)", b -> b.moved(MOST, 0));
    }

    static void promise23_otherTooSmall() {
        Edges.bad("moved(0, -1)", b -> b.moved(0, -1));
        Edges.bad("moved(0, least)", b -> b.moved(0, LEAST));
    }

    static void promise23_otherTooLarge() {
        Edges.bad("moved(0, 4)", b -> b.moved(0, 4));
        Edges.bad("moved(0, most)", b -> b.moved(0, MOST));
    }

    static void promise23_badStandsAheadOfNone() {
        Edges.bad("moved(1, 4)", b -> b.moved(1, 4));
        Edges.bad("moved(4, 1)", b -> b.moved(4, 1));
        Edges.bad("moved(-1, 3)", b -> b.moved(-1, 3));
    }

    static void promise23_oneWasNotKept() {
        Edges.stays("moved(1, 0)", NONE, b -> b.moved(1, 0));
        Edges.stays("moved(0, 1)", NONE, b -> b.moved(0, 1));
        Edges.stays("moved(2, 3)", NONE, b -> b.moved(2, 3));
    }

    static void promise23_neitherWasKept() {
        Edges.stays("moved(1, 3)", NONE, b -> b.moved(1, 3));
        Edges.stays("moved(1, 1)", NONE, b -> b.moved(1, 1));
    }

    static void promise23_aYearAndItself() {
        Edges.stays("moved(0, 0)", 0, b -> b.moved(0, 0));
        Edges.stays("moved(2, 2)", 0, b -> b.moved(2, 2));
    }

    static void promise23_eitherWay() {
        Edges.stays("moved(0, 2)", 1, b -> b.moved(0, 2));
        Edges.stays("moved(2, 0)", 1, b -> b.moved(2, 0));
    }

    private static int movedBetween(String[] one, String[] other) {
        LandBoard b = laid(one);
        b.keep(0);
        Check.lay(b, other);
        b.keep(3);
        due("either way", b.moved(3, 0), b.moved(0, 3));
        return b.moved(0, 3);
    }

    private static String[] rows(String... rows) {
        return rows;
    }

    static void promise23_alike() {
        due("moved(0, 3)", movedBetween(rows("01", "2."), rows("01", "2.")), 0);
    }

    static void promise23_otherColumns() {
        due("moved(0, 3)", movedBetween(rows("01", "23"), rows("01.", "23.")), NONE);
    }

    static void promise23_otherRows() {
        due("moved(0, 3)", movedBetween(rows("01", "23"), rows("01", "23", "..")), NONE);
    }

    static void promise23_asManyCellsInOtherRows() {
        due("moved(0, 3)", movedBetween(rows("......"), rows("...", "...")), NONE);
        due("sides changed", movedBetween(rows("00", "00", "00"), rows("000", "000")), NONE);
    }

    static void promise23_seaAndLand() {
        due("moved(0, 3)", movedBetween(rows("0.", ".."), rows("..", "..")), 1);
        due("land 5", movedBetween(rows("..", ".."), rows("..", ".5")), 1);
    }

    static void promise23_landAndLand() {
        due("moved(0, 3)", movedBetween(rows("05", "00"), rows("50", "00")), 2);
    }

    static void promise23_eachCell() {
        LandBoard b = Edges.full(0);
        b.keep(1);
        for (int k = 0; k < 64; k++) {
            b.set(k % 8, k / 8, 5);
        }
        b.keep(2);
        due("moved(1, 2)", b.moved(1, 2), 64);
        b.board(8, 8);
        b.keep(0);
        due("moved(1, 0)", b.moved(1, 0), 64);
        due("moved(0, 2)", b.moved(0, 2), 64);
    }

    static void promise23_theBoardNowDoesNotCount() {
        LandBoard b = Edges.busy();
        b.board(8, 8);
        due("moved(0, 2)", b.moved(0, 2), 1);
    }

    // ---- promise 24: count

    static void promise24_whatTooSmall() {
        Edges.bad("count(-1)", b -> b.count(-1));
        Edges.bad("count(least)", b -> b.count(LEAST));
    }

    static void promise24_whatTooLarge() {
        Edges.bad("count(5)", b -> b.count(5));
        Edges.bad("count(most)", b -> b.count(MOST));
    }

    static void promise24_ofABusyBoard() {
        int[] dues = {5, 4, 4, 3, 3};
        for (int k = 0; k < 5; k++) {
            int what = k;
            Edges.stays("count(" + what + ")", dues[what], b -> b.count(what));
        }
    }

    static void promise24_noLands() {
        LandBoard b = new LandBoard();
        due("count(2)", b.count(2), 0);
        b.want(0, 9);
        due("count(2), one is wanted", b.count(2), 0);
    }

    static void promise24_sixLands() {
        due("count(2)", laid("012345").count(2), 6);
    }

    static void promise24_landsComeAndGo() {
        LandBoard b = laid("05");
        due("count(2)", b.count(2), 2);
        b.set(1, 0, SEA);
        due("count(2)", b.count(2), 1);
        b.set(0, 0, SEA);
        due("count(2)", b.count(2), 0);
    }

    static void promise24_theLeastAndTheLargestBoard() {
        LandBoard b = new LandBoard();
        b.board(1, 8);
        due("count(0)", b.count(0), 1);
        due("count(1)", b.count(1), 8);
        b.board(8, 1);
        due("count(0)", b.count(0), 8);
        due("count(1)", b.count(1), 1);
    }

    private static LandBoard toAndFro(int moves) {
        LandBoard b = laid("0001");
        for (int k = 0; k < moves; k++) {
            b.move(2, 0, k % 2 == 0 ? 1 : 0);
        }
        return b;
    }

    static void promise24_aHundredMovesAreKept() {
        due("99", toAndFro(99).count(3), 99);
        due("100", toAndFro(100).count(3), 100);
        due("101", toAndFro(101).count(3), 100);
        due("250", toAndFro(250).count(3), 100);
    }

    static void promise24_allMovesDoneCount() {
        due("100", toAndFro(100).count(4), 100);
        due("101", toAndFro(101).count(4), 101);
        due("250", toAndFro(250).count(4), 250);
    }

    static void promise24_movesTakenBackCountAsDone() {
        LandBoard b = toAndFro(5);
        b.undo(2);
        due("count(3)", b.count(3), 3);
        due("count(4)", b.count(4), 5);
        b.move(2, 0, 0);
        due("count(3)", b.count(3), 4);
        due("count(4)", b.count(4), 6);
    }

    static void promise24_refusedMovesAreNotDone() {
        LandBoard b = toAndFro(1);
        b.move(0, 0, 1);
        b.move(0, 0, 6);
        due("count(3)", b.count(3), 1);
        due("count(4)", b.count(4), 1);
    }

    // ---- promise 25: trace

    static void promise25_landComesAsOne() {
        LandBoard b = laid("00");
        b.leaves(0, 0);
        due("trace()", b.trace(), 1);
        b.leaves(1, 0);
        due("trace()", b.trace(), 2);
    }

    static void promise25_homeAsksLandToo() {
        LandBoard b = laid("00");
        b.kind(0, 1, 0, 0);
        b.leaves(1, 0);
        due("trace()", b.trace(), 11);
    }

    static void promise25_shoreAsksHomeAndLandToo() {
        LandBoard b = laid("00");
        b.kind(0, 2, 0, 0);
        b.leaves(1, 0);
        due("trace()", b.trace(), 111);
    }

    static void promise25_whatIsNotLeftIsAskedTheSame() {
        LandBoard b = laid("000");
        b.leaves(1, 0);
        due("LAND, in pieces", b.trace(), 1);
        b.kind(0, 1, 0, 0);
        b.leaves(1, 0);
        due("HOME, in pieces", b.trace(), 12);
        b.leaves(0, 0);
        due("HOME, its own cell", b.trace(), 23);
        b.kind(0, 2, 0, 0);
        b.leaves(1, 0);
        due("SHORE, in pieces", b.trace(), 134);
        b.leaves(0, 0);
        due("SHORE, its own cell", b.trace(), 245);
    }

    static void promise25_theFirstKindAgain() {
        LandBoard b = laid("00");
        b.kind(0, 2, 0, 0);
        b.kind(0, 0, 0, 0);
        b.leaves(1, 0);
        due("trace()", b.trace(), 1);
    }

    static void promise25_theKindIsThatOfTheCellsLand() {
        LandBoard b = laid("0011");
        b.kind(0, 2, 0, 0);
        b.leaves(2, 0);
        due("trace()", b.trace(), 1);
        b.leaves(1, 0);
        due("trace()", b.trace(), 112);
    }

    static void promise25_whatIsRefusedAsksNobody() {
        Edges.bad("leaves(4, 0), sea", b -> b.leaves(4, 0));
        Edges.bad("leaves(5, 0), no cell", b -> b.leaves(5, 0));
        LandBoard b = laid("0.");
        b.leaves(1, 0);
        b.leaves(2, 0);
        due("trace()", b.trace(), 0);
    }

    static void promise25_onlyLeavesAsks() {
        LandBoard b = laid("0001", "0001");
        b.kind(0, 2, 0, 0);
        b.may(2, 0, 1);
        b.move(2, 0, 1);
        b.move(0, 0, 1);
        b.want(1, 8);
        b.want(0, 1);
        b.steps(64);
        b.undo(100);
        due("trace()", b.trace(), 0);
    }

    static void promise25_staysOverBoardsAndYears() {
        LandBoard b = Edges.busy();
        b.set(0, 0, 5);
        due("behind set", b.trace(), 12);
        b.back(0);
        due("behind back", b.trace(), 12);
        b.board(1, 1);
        due("behind board", b.trace(), 12);
    }

    static void promise25_nothingChanges() {
        Edges.stays("trace()", 12, LandBoard::trace);
    }

    static void promise25_theMost() {
        LandBoard b = laid("00");
        b.kind(0, 2, 0, 0);
        for (int k = 0; k < 507; k++) {
            b.leaves(0, 0);
        }
        due("the last of 512 calls", b.trace(), 507 * 111);
    }
}
