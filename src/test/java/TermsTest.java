/** The terms of the document up to the squares: what it is, gardens, triples, flips, ways, squares. */
public final class TermsTest extends Cases {
    public static void main(String[] args) {
        new TermsTest().run();
    }

    // ---- what it is: at most 512 calls

    void termWhatItIsThe512thCall() {
        BentGardens gardens = new BentGardens();
        for (int call = 1; call <= 511; call++) {
            gardens.lay(0, 0, 1);
        }
        check.due("the 512th call", 511, gardens.count(10));
    }

    void termWhatItIs512Flips() {
        BentGardens gardens = Told.gardenOf("...o/...#");
        gardens.lay(0, 0, 2);
        gardens.lay(1, 0, 0);
        for (int flips = 1; flips <= 501; flips++) {
            check.due("flip", flips, gardens.flip(0, 0, false));
        }
    }

    void termWhatItIs512TimesTheDearestCalls() {
        BentGardens gardens = Told.gardenOf(8, 8, 0, 0);
        long digest = gardens.digest();
        for (int call = 4; call <= 512; call += 3) {
            check.due("digest", digest, gardens.digest());
            check.due("ways", 30355, gardens.ways());
            check.due("bestPond", 0, gardens.bestPond());
        }
    }

    void termWhatItIs512SavedStates() {
        BentGardens gardens = new BentGardens();
        for (int call = 1; call <= 505; call++) {
            gardens.wall(1, 1);
        }
        for (int left = 5; left >= 0; left--) {
            check.due("undo", left, gardens.undo());
        }
        check.due("the wall before the last six calls", 2, gardens.cell(1, 1, 0));
    }

    // ---- gardens

    void termGardensTwoToEightWide() {
        BentGardens gardens = new BentGardens();
        check.due("2 wide", 10, gardens.garden(2, 5));
        check.due("8 wide", 40, gardens.garden(8, 5));
        check.refuses("1 wide", NO_ARGUMENT, gardens, () -> gardens.garden(1, 5));
        check.refuses("9 wide", NO_ARGUMENT, gardens, () -> gardens.garden(9, 5));
    }

    void termGardensTwoToEightHigh() {
        BentGardens gardens = new BentGardens();
        check.due("2 high", 10, gardens.garden(5, 2));
        check.due("8 high", 40, gardens.garden(5, 8));
        check.refuses("1 high", NO_ARGUMENT, gardens, () -> gardens.garden(5, 1));
        check.refuses("9 high", NO_ARGUMENT, gardens, () -> gardens.garden(5, 9));
    }

    void termGardensColumnsAndRowsFromTheUpperLeft() {
        BentGardens gardens = Told.gardenOf("#.../..../o..#/....");
        check.due("the upper left", 2, gardens.cell(0, 0, 0));
        check.due("the column 3, the row 2", 2, gardens.cell(3, 2, 0));
        check.due("the column 2, the row 3", 0, gardens.cell(2, 3, 0));
        check.due("the column 0, the row 2", 1, gardens.cell(0, 2, 0));
    }

    void termGardensCellsAreOrderedByRowsFirst() {
        check.due("(3, 0) before (0, 2)", 3, Told.gardenOf("o##./####/.###").lonely());
        check.due("(3, 0) before (0, 1)", 3, Told.gardenOf("###../.###./..##o").forced(0));
        check.due("(1, 0) before (0, 1)", 1, Told.gardenOf("#../#o.").bestPond());
    }

    void termGardensThenByColumns() {
        check.due("(1, 1) before (3, 1)", 11, Told.gardenOf("o#####/#.#.##").lonely());
        check.due("(0, 0) before (3, 0)", 0, Told.gardenOf("..#../.##.#/####o").forced(0));
        check.due("(1, 0) before (2, 0)", 1, Told.gardenOf("#../#.o").bestPond());
    }

    void termGardensOnePond() {
        BentGardens gardens = new BentGardens();
        gardens.pond(3, 3);
        gardens.pond(1, 2);
        int ponds = 0;
        for (int place = 0; place < 16; place++) {
            ponds += gardens.cell(place % 4, place / 4, 0) == 1 ? 1 : 0;
        }
        check.due("ponds", 1, ponds);
        check.due("the pond", 1, gardens.cell(1, 2, 0));
    }

    void termGardensPondAtFirst() {
        check.due("cell(0, 0, 0)", 1, new BentGardens().cell(0, 0, 0));
    }

    void termGardensAtFirstFourByFourWithoutWalls() {
        BentGardens gardens = new BentGardens();
        check.due("wide", 4, gardens.count(0));
        check.due("high", 4, gardens.count(1));
        check.due("walls", 0, gardens.count(4));
    }

    void termGardensFreeOrPavedOtherwise() {
        BentGardens gardens = Told.gardenOf("o#../....");
        gardens.lay(2, 0, 3);
        check.due("free", 3, gardens.count(6));
        check.dueText("cells", "o#aa/...a", Told.cells(gardens));
    }

    // ---- triples

    private void turn(int turn, String due) {
        BentGardens gardens = Told.gardenOf(4, 4, 3, 3);
        check.due("lay(1, 1, " + turn + ")", 0, gardens.lay(1, 1, turn));
        check.dueText("cells", due, Told.cells(gardens));
    }

    void termTriplesTurn0LeavesTheUpperLeftOut() {
        turn(0, "..../..a./.aa./...o");
    }

    void termTriplesTurn1LeavesTheUpperRightOut() {
        turn(1, "..../.a../.aa./...o");
    }

    void termTriplesTurn2LeavesTheLowerRightOut() {
        turn(2, "..../.aa./.a../...o");
    }

    void termTriplesTurn3LeavesTheLowerLeftOut() {
        turn(3, "..../.aa./..a./...o");
    }

    void termTriplesNumberedFrom0AsTheyWereLaid() {
        BentGardens gardens = new BentGardens();
        gardens.lay(2, 2, 2);
        gardens.lay(0, 0, 0);
        gardens.lay(2, 0, 1);
        check.dueText("triples", "222 000 201", Told.triples(gardens));
        check.dueText("cells", "obc./bbcc/..aa/..a.", Told.cells(gardens));
    }

    void termTriplesRefusedOnesHaveNoNumber() {
        BentGardens gardens = new BentGardens();
        gardens.lay(2, 2, 2);
        gardens.lay(2, 2, 1);
        gardens.lay(0, 0, 0);
        check.dueText("triples", "222 000", Told.triples(gardens));
    }

    private static BentGardens fiveTriples() {
        BentGardens gardens = new BentGardens();
        gardens.fill();
        return gardens;
    }

    void termTriplesThoseBehindTheFirstOne() {
        BentGardens gardens = fiveTriples();
        check.due("lift", 0, gardens.lift(1, 0));
        check.dueText("triples", "203 110 021 220", Told.triples(gardens));
        check.dueText("cells", "o.aa/..ba/cbbd/ccdd", Told.cells(gardens));
    }

    void termTriplesThoseBehindOneInTheMiddle() {
        BentGardens gardens = fiveTriples();
        check.due("lift", 2, gardens.lift(2, 2));
        check.dueText("triples", "000 203 021 220", Told.triples(gardens));
        check.dueText("cells", "oabb/aa.b/c..d/ccdd", Told.cells(gardens));
    }

    void termTriplesNoneBehindTheLastOne() {
        BentGardens gardens = fiveTriples();
        check.due("lift", 4, gardens.lift(3, 3));
        check.dueText("triples", "000 203 110 021", Told.triples(gardens));
    }

    private void reason(String call, BentGardens gardens, int due, int x, int y, int turn) {
        check.due(call + ", whyNot", due, gardens.whyNot(x, y, turn));
        check.due(call + ", lay", due, gardens.lay(x, y, turn));
    }

    void termTriplesReason1BeyondTheLeft() {
        for (int turn = 0; turn < 4; turn++) {
            reason("x is -1", new BentGardens(), 1, -1, 1, turn);
        }
    }

    void termTriplesReason1BeyondTheTop() {
        for (int turn = 0; turn < 4; turn++) {
            reason("y is -1", new BentGardens(), 1, 1, -1, turn);
        }
    }

    void termTriplesReason1BeyondTheRight() {
        for (int turn = 0; turn < 4; turn++) {
            reason("x is the last column", new BentGardens(), 1, 3, 1, turn);
            reason("the last column of 8", Told.gardenOf(8, 8, 0, 0), 1, 7, 3, turn);
            reason("the last column of 3", Told.gardenOf(3, 8, 0, 0), 1, 2, 3, turn);
        }
        reason("x before the last column", new BentGardens(), 0, 2, 1, 0);
    }

    void termTriplesReason1BeyondTheFoot() {
        for (int turn = 0; turn < 4; turn++) {
            reason("y is the last row", new BentGardens(), 1, 1, 3, turn);
            reason("the last row of 8", Told.gardenOf(8, 8, 0, 0), 1, 3, 7, turn);
            reason("the last row of 3", Told.gardenOf(8, 3, 0, 0), 1, 3, 2, turn);
        }
        reason("y before the last row", new BentGardens(), 0, 1, 2, 0);
    }

    void termTriplesReason1WhereOnlyACornerIsIn() {
        reason("the upper left", Told.gardenOf(4, 4, 1, 1), 1, -1, -1, 2);
        reason("the lower right", new BentGardens(), 1, 3, 3, 0);
    }

    void termTriplesReason1BeforeThePond() {
        reason("the pond in the upper left", new BentGardens(), 1, -1, 0, 0);
        reason("the pond in the upper left", new BentGardens(), 1, 0, -1, 0);
        reason("the pond in the lower right", Told.gardenOf(4, 4, 3, 3), 1, 3, 3, 2);
    }

    void termTriplesReason1BeforeAWall() {
        reason("a wall at the right", Told.gardenOf("o..#/...#"), 1, 3, 0, 1);
        reason("a wall at the foot", Told.gardenOf("o.../#..#"), 1, 0, 1, 2);
    }

    void termTriplesReason1BeforeAPavedCell() {
        reason("a paved cell at the right", fiveTriples(), 1, 3, 1, 0);
        reason("a paved cell at the foot", fiveTriples(), 1, 1, 3, 0);
    }

    void termTriplesReason2OnEachOfItsCells() {
        for (int turn = 0; turn < 4; turn++) {
            int[][] corners = {{1, 1}, {2, 1}, {2, 2}, {1, 2}};
            for (int corner = 0; corner < 4; corner++) {
                BentGardens gardens = Told.gardenOf(4, 4, corners[corner][0], corners[corner][1]);
                reason("the corner " + corner + " of the turn " + turn, gardens, corner == turn ? 0 : 2, 1, 1, turn);
            }
        }
    }

    void termTriplesReason2BeforeAWall() {
        reason("the pond behind a wall", Told.gardenOf("#./.o"), 2, 0, 0, 1);
        reason("the pond before a wall", Told.gardenOf("o./.#"), 2, 0, 0, 1);
    }

    void termTriplesReason2BeforeAPavedCell() {
        BentGardens gardens = new BentGardens();
        gardens.lay(1, 0, 0);
        reason("the pond before a paved cell", gardens, 2, 0, 0, 1);
        BentGardens behind = Told.gardenOf(4, 4, 2, 2);
        behind.lay(0, 0, 0);
        reason("the pond behind a paved cell", behind, 2, 1, 1, 1);
    }

    void termTriplesReason2BeforeBoth() {
        BentGardens gardens = Told.gardenOf("..../.#../.o../....");
        gardens.lay(2, 0, 0);
        gardens.lay(2, 1, 0);
        reason("a wall, a paved cell and the pond", gardens, 2, 1, 1, 1);
    }

    void termTriplesReason3OnEachOfItsCells() {
        for (int turn = 0; turn < 4; turn++) {
            int[][] corners = {{1, 1}, {2, 1}, {2, 2}, {1, 2}};
            for (int corner = 0; corner < 4; corner++) {
                BentGardens gardens = new BentGardens();
                gardens.wall(corners[corner][0], corners[corner][1]);
                reason("the corner " + corner + " of the turn " + turn, gardens, corner == turn ? 0 : 3, 1, 1, turn);
            }
        }
    }

    void termTriplesReason3BeforeAPavedCell() {
        BentGardens gardens = Told.gardenOf("o.../..../..#./....");
        gardens.lay(0, 0, 0);
        reason("a wall behind a paved cell", gardens, 3, 1, 1, 1);
        BentGardens before = Told.gardenOf("o.../.#../..../....");
        before.lay(2, 2, 0);
        before.lay(2, 1, 2);
        reason("a wall before a paved cell", before, 3, 1, 1, 3);
    }

    void termTriplesReason4OnEachOfItsCells() {
        int[][] blocks = {{0, 0}, {2, 0}, {2, 2}, {0, 2}};
        for (int turn = 0; turn < 4; turn++) {
            for (int corner = 0; corner < 4; corner++) {
                BentGardens gardens = Told.gardenOf(5, 5, 4, 4);
                // This triple has just the one corner in common with the block at (1, 1).
                gardens.lay(blocks[corner][0], blocks[corner][1], corner);
                reason("the corner " + corner + " of the turn " + turn, gardens, corner == turn ? 0 : 4, 1, 1, turn);
            }
        }
    }

    void termTriplesReason4AnywhereBeforeNone() {
        BentGardens gardens = fiveTriples();
        for (int turn = 1; turn < 4; turn++) {
            reason("all is paved", gardens, 4, 1, 1, turn);
            reason("all is paved", gardens, 4, 2, 2, turn);
        }
    }

    // ---- flips

    private static BentGardens laid(String garden, int... triples) {
        BentGardens gardens = Told.gardenOf(garden);
        for (int index = 0; index + 2 < triples.length; index += 3) {
            gardens.lay(triples[index], triples[index + 1], triples[index + 2]);
        }
        return gardens;
    }

    void termFlipsTwoWideAndThreeHigh() {
        BentGardens gardens = laid("..o/..#/..#", 0, 0, 2, 0, 1, 0);
        check.due("blocks", 1, gardens.count(8));
        gardens.flip(0, 0, true);
        check.dueText("cells", "aao/ba#/bb#", Told.cells(gardens));
        gardens.flip(0, 0, true);
        check.dueText("cells", "aao/ab#/bb#", Told.cells(gardens));
    }

    void termFlipsThreeWideAndTwoHigh() {
        BentGardens gardens = laid(".../.../o##", 0, 0, 2, 1, 0, 0);
        check.due("blocks", 1, gardens.count(8));
        gardens.flip(0, 0, false);
        check.dueText("cells", "abb/aab/o##", Told.cells(gardens));
        gardens.flip(0, 0, false);
        check.dueText("cells", "aab/abb/o##", Told.cells(gardens));
    }

    void termFlipsWhicheverWasLaidFirst() {
        BentGardens high = laid("..o/..#/..#", 0, 1, 0, 0, 0, 2);
        check.dueText("high, before", "bbo/ba#/aa#", Told.cells(high));
        high.flip(0, 0, true);
        check.dueText("high", "003 011", Told.triples(high));
        BentGardens wide = laid(".../.../o##", 1, 0, 3, 0, 0, 1);
        check.dueText("wide, before", "baa/bba/o##", Told.cells(wide));
        wide.flip(0, 0, false);
        check.dueText("wide", "002 100", Told.triples(wide));
    }

    void termFlipsTheFirstCellsTripleFirst() {
        check.dueText("high, the turn 3", "003 011", flippedOnce("..o/..#/..#", true, 0, 0, 2, 0, 1, 0));
        check.dueText("high, the turn 2", "002 010", flippedOnce("..o/..#/..#", true, 0, 0, 3, 0, 1, 1));
        check.dueText("wide, the turn 1", "001 103", flippedOnce(".../.../o##", false, 0, 0, 2, 1, 0, 0));
        check.dueText("wide, the turn 2", "002 100", flippedOnce(".../.../o##", false, 0, 0, 1, 1, 0, 3));
    }

    private static String flippedOnce(String garden, boolean isHigh, int... triples) {
        BentGardens gardens = laid(garden, triples);
        gardens.flip(0, 0, isHigh);
        return Told.triples(gardens);
    }

    void termFlipsNumbersOfTheOthers() {
        BentGardens gardens = laid("...../...../...../o....", 0, 0, 2, 3, 0, 3, 1, 0, 0, 3, 2, 1);
        check.dueText("before", "002 303 100 321", Told.triples(gardens));
        gardens.flip(0, 0, false);
        check.dueText("after", "303 321 001 103", Told.triples(gardens));
    }

    void termFlipsNotFreeCells() {
        BentGardens gardens = laid("..../..../o...", 0, 0, 2);
        check.refuses("one triple and free cells", NO_STATE, gardens, () -> gardens.flip(0, 0, false));
        check.due("blocks", 0, gardens.count(8));
    }

    void termFlipsNotThePondNorAWall() {
        BentGardens gardens = laid("..o/..#/..#", 0, 0, 2, 0, 1, 0);
        check.refuses("the pond and a wall in it", NO_STATE, gardens, () -> gardens.flip(0, 0, false));
        check.refuses("walls in it", NO_STATE, gardens, () -> gardens.flip(1, 0, true));
    }

    void termFlipsTriplesThatCoverAnythingElse() {
        BentGardens gardens = new BentGardens();
        gardens.fill();
        check.dueText("before", "oabb/aacb/dcce/ddee", Told.cells(gardens));
        check.due("blocks", 0, gardens.count(8));
        for (int y = 0; y < 3; y++) {
            int row = y;
            check.refuses("a wide block", NO_STATE, gardens, () -> gardens.flip(1, row, false));
            check.refuses("a high block", NO_STATE, gardens, () -> gardens.flip(row, 1, true));
        }
    }

    void termFlipsFirstTripleReachesOut() {
        BentGardens gardens = laid("o.../..../..../....", 0, 0, 0, 2, 1, 0);
        check.dueText("before", "oa../aa.b/..bb/....", Told.cells(gardens));
        check.refuses("a wide block", NO_STATE, gardens, () -> gardens.flip(1, 1, false));
        check.due("blocks", 0, gardens.count(8));
    }

    void termFlipsSecondTripleReachesOut() {
        BentGardens gardens = laid("..../..../...o", 0, 0, 2, 1, 1, 1);
        check.dueText("before", "aa../ab../.bbo", Told.cells(gardens));
        check.refuses("a high block", NO_STATE, gardens, () -> gardens.flip(0, 0, true));
        check.refuses("a wide block", NO_STATE, gardens, () -> gardens.flip(0, 0, false));
        check.due("blocks", 0, gardens.count(8));
    }

    void termFlipsThreeTriples() {
        BentGardens gardens = laid("..../..../..../...o", 0, 0, 2, 0, 1, 0, 2, 0, 2);
        check.dueText("before", "aacc/abc./bb../...o", Told.cells(gardens));
        check.refuses("wholly covered, by three", NO_STATE, gardens, () -> gardens.flip(0, 0, false));
        check.due("just the high block of the first two", 1, gardens.count(8));
    }

    // ---- ways

    void termWaysNoOrder() {
        check.due("five triples, one set", 1, new BentGardens().ways());
        check.due("two blocks apart", 1, Told.gardenOf("o.#../..#.#").ways());
    }

    void termWaysNoCellIsFreeThen() {
        check.due("one cell", 0, Told.gardenOf("o#/#.").ways());
        check.due("four cells", 0, Told.gardenOf("../../#o").ways());
        check.due("three cells in a line", 0, Told.gardenOf("o###/...#").ways());
        check.due("three cells that are bent", 1, Told.gardenOf("o#../###.").ways());
    }

    void termWaysFirstWayLeastTurnForTheFirstFreeCell() {
        BentGardens gardens = Told.gardenOf("o##/.../...");
        check.due("ways", 2, gardens.ways());
        gardens.fill();
        check.dueText("the turn 1 before the turn 2", "011 113", Told.triples(gardens));
        BentGardens high = Told.gardenOf("o#../##../##..");
        high.fill();
        check.dueText("the turn 2 before the turn 3", "202 210", Told.triples(high));
    }

    void termWaysFirstWayOnlyWhereThereIsStillAWay() {
        BentGardens gardens = new BentGardens();
        check.due("the least turn of (2, 0) leaves no way", 0, gardens.waysWith(1, 0, 0));
        gardens.fill();
        check.dueText("triples", "000 203 110 021 220", Told.triples(gardens));
    }

    void termWaysFirstWayGoesOnWithTheNextFreeCell() {
        int[][] ponds = {{0, 0}, {2, 2}, {4, 4}, {0, 4}};
        for (int[] pond : ponds) {
            BentGardens gardens = Told.gardenOf(5, 5, pond[0], pond[1]);
            String due = firstWay(Told.gardenOf(5, 5, pond[0], pond[1]));
            gardens.fill();
            check.dueText("the pond at " + pond[0] + ", " + pond[1], due, Told.triples(gardens));
        }
    }

    /** The first way, found by laying and by waysWith(). */
    private static String firstWay(BentGardens gardens) {
        for (int place = 0; place < gardens.count(0) * gardens.count(1); place++) {
            int x = place % gardens.count(0);
            int y = place / gardens.count(0);
            for (int turn = 0; turn < 4 && gardens.cell(x, y, 0) == 0; turn++) {
                int blockX = turn == 0 ? x - 1 : x;
                if (gardens.waysWith(blockX, y, turn) > 0) {
                    gardens.lay(blockX, y, turn);
                }
            }
        }
        return Told.triples(gardens);
    }

    // ---- squares

    private void squares(int side, int pondX, int pondY, String due) {
        BentGardens gardens = Told.gardenOf(side, side, pondX, pondY);
        gardens.halve();
        check.dueText("the pond at " + pondX + ", " + pondY, due, Told.triples(gardens));
    }

    private void noSquares(int wide, int high) {
        BentGardens gardens = Told.gardenOf(wide, high, 0, 0);
        check.refuses(wide + " by " + high, NO_STATE, gardens, () -> gardens.halve());
    }

    void termSquaresOfTwoLeaveThePondOut() {
        squares(2, 0, 0, "000");
        squares(2, 1, 0, "001");
        squares(2, 1, 1, "002");
        squares(2, 0, 1, "003");
    }

    void termSquaresOfFourThePondInTheUpperLeft() {
        squares(4, 0, 0, "110 000 203 021 220");
        squares(4, 1, 1, "110 002 203 021 220");
    }

    void termSquaresOfFourThePondInTheUpperRight() {
        squares(4, 3, 1, "111 002 202 021 220");
        squares(4, 2, 0, "111 002 200 021 220");
    }

    void termSquaresOfFourThePondInTheLowerLeft() {
        squares(4, 0, 2, "113 002 203 020 220");
        squares(4, 1, 3, "113 002 203 022 220");
    }

    void termSquaresOfFourThePondInTheLowerRight() {
        squares(4, 3, 3, "112 002 203 021 222");
        squares(4, 2, 2, "112 002 203 021 220");
    }

    void termSquaresOfEight() {
        squares(8, 0, 0,
            "330 110 000 203 021 220 513 402 603 423 620 151 042 241 061 260 550 440 643 461 660");
        BentGardens gardens = Told.gardenOf(8, 8, 5, 6);
        check.due("halve", 21, gardens.halve());
        check.due("the middle is laid first", 332, 100 * gardens.triple(0, 0) + 10 * gardens.triple(0, 1)
            + gardens.triple(0, 2));
    }

    void termSquaresNotOfThreeFiveSixSeven() {
        noSquares(3, 3);
        noSquares(5, 5);
        noSquares(6, 6);
        noSquares(7, 7);
    }

    void termSquaresNotHigherOrLower() {
        noSquares(2, 4);
        noSquares(4, 2);
        noSquares(4, 8);
        noSquares(8, 4);
        noSquares(8, 7);
        noSquares(2, 3);
        noSquares(4, 5);
    }

    void termSquaresWithoutWalls() {
        BentGardens gardens = new BentGardens();
        gardens.wall(2, 3);
        check.refuses("with a wall", NO_STATE, gardens, () -> gardens.halve());
        gardens.wall(2, 3);
        check.due("without", 5, gardens.halve());
    }

    void termSquaresWithoutTriples() {
        BentGardens gardens = new BentGardens();
        gardens.lay(2, 2, 0);
        check.refuses("with a triple", NO_STATE, gardens, () -> gardens.halve());
        gardens.lift(3, 3);
        check.due("without", 5, gardens.halve());
        check.refuses("when it is paved", NO_STATE, gardens, () -> gardens.halve());
    }
}
