/** Promises 1 to 4: a new object, garden, pond, wall. */
public final class GardensTest extends Cases {
    public static void main(String[] args) {
        new GardensTest().run();
    }

    // ---- promise 1: a new object

    void promise1FourByFour() {
        BentGardens gardens = new BentGardens();
        check.due("count(0)", 4, gardens.count(0));
        check.due("count(1)", 4, gardens.count(1));
        check.dueText("cells", "o.../..../..../....", Told.cells(gardens));
    }

    void promise1PondAtTheUpperLeft() {
        BentGardens gardens = new BentGardens();
        check.due("cell(0, 0, 0)", 1, gardens.cell(0, 0, 0));
        check.due("count(2)", 0, gardens.count(2));
        check.due("count(3)", 0, gardens.count(3));
    }

    void promise1AllCounts() {
        check.dueText("counts", "4 4 0 0 0 0 15 33 0 0 0 0", Told.counts(new BentGardens()));
    }

    void promise1NoTriple() {
        BentGardens gardens = new BentGardens();
        check.refuses("triple(0, 0)", NO_CELL, gardens, () -> gardens.triple(0, 0));
        check.refuses("lift(1, 1)", NO_STATE, gardens, () -> gardens.lift(1, 1));
    }

    void promise1EmptyBuffer() {
        BentGardens gardens = new BentGardens();
        check.due("firstError", 0, gardens.firstError());
        check.refuses("load", NO_ARGUMENT, gardens, () -> gardens.load());
        check.due("clearBuffer", 0, gardens.clearBuffer());
    }

    void promise1EmptySlots() {
        BentGardens gardens = new BentGardens();
        check.refuses("goBack(0)", NO_STATE, gardens, () -> gardens.goBack(0));
        check.refuses("goBack(1)", NO_STATE, gardens, () -> gardens.goBack(1));
    }

    void promise1NothingToUndo() {
        BentGardens gardens = new BentGardens();
        check.refuses("undo", NO_STATE, gardens, () -> gardens.undo());
    }

    void promise1ObjectsStayApart() {
        BentGardens first = new BentGardens();
        first.garden(5, 6);
        first.lay(1, 1, 1);
        first.keep(0);
        first.append('o');
        BentGardens second = new BentGardens();
        first.wall(4, 4);
        check.dueText("the second one", "o.../..../..../....", Told.cells(second));
        check.due("the second one's buffer", 0, second.clearBuffer());
        check.refuses("the second one's slot", NO_STATE, second, () -> second.goBack(0));
        check.dueText("the first one", "o..../.a.../.aa../...../....#/.....", Told.cells(first));
    }

    void promise1None() {
        check.due("NONE", -1, BentGardens.NONE);
    }

    // ---- promise 2: garden

    void promise2EachSize() {
        BentGardens gardens = new BentGardens();
        for (int wide = 2; wide <= 8; wide++) {
            for (int high = 2; high <= 8; high++) {
                check.due("garden(" + wide + ", " + high + ")", wide * high, gardens.garden(wide, high));
                check.due("wide", wide, gardens.count(0));
                check.due("high", high, gardens.count(1));
                check.due("free", wide * high - 1, gardens.count(6));
            }
        }
    }

    private void refusedSize(int wide, int high) {
        BentGardens gardens = new BentGardens();
        check.refuses("garden(" + wide + ", " + high + ")", NO_ARGUMENT, gardens, () -> gardens.garden(wide, high));
    }

    void promise2WideIsOne() {
        refusedSize(1, 4);
        refusedSize(1, 2);
    }

    void promise2WideIsNine() {
        refusedSize(9, 4);
        refusedSize(9, 2);
    }

    void promise2HighIsOne() {
        refusedSize(4, 1);
        refusedSize(2, 1);
    }

    void promise2HighIsNine() {
        refusedSize(4, 9);
        refusedSize(2, 9);
    }

    void promise2FarOutOfRange() {
        int[] wrong = {0, -1, -4, 10, 16, 68, Integer.MAX_VALUE, Integer.MIN_VALUE};
        for (int side : wrong) {
            refusedSize(side, 4);
            refusedSize(4, side);
        }
    }

    void promise2WithoutWallsAndTriples() {
        BentGardens gardens = Told.gardenOf("##o./..../....");
        gardens.lay(0, 1, 1);
        gardens.garden(4, 3);
        check.dueText("cells", "o.../..../....", Told.cells(gardens));
        check.due("walls", 0, gardens.count(4));
        check.due("triples", 0, gardens.count(5));
    }

    void promise2PondAtTheUpperLeft() {
        BentGardens gardens = new BentGardens();
        gardens.pond(3, 2);
        gardens.garden(4, 4);
        check.dueText("cells", "o.../..../..../....", Told.cells(gardens));
        check.dueText("counts", "4 4 0 0 0 0 15 33 0 0 0 2", Told.counts(gardens));
    }

    void promise2CountsGoOn() {
        BentGardens gardens = Told.gardenOf("...o/...#");
        gardens.lay(0, 0, 2);
        gardens.lay(1, 0, 0);
        gardens.lay(1, 0, 0);
        gardens.flip(0, 0, false);
        gardens.flip(0, 0, false);
        gardens.garden(2, 2);
        check.due("flips so far", 2, gardens.count(9));
        check.due("refused so far", 1, gardens.count(10));
    }

    void promise2BufferAndSlotsStay() {
        BentGardens gardens = new BentGardens();
        gardens.lay(2, 2, 0);
        gardens.keep(1);
        gardens.append('#');
        gardens.garden(2, 2);
        check.due("clearBuffer", 1, gardens.clearBuffer());
        check.due("goBack(1)", 1, gardens.goBack(1));
    }

    void promise2UndoableAlsoIfNothingChanges() {
        BentGardens gardens = new BentGardens();
        gardens.garden(4, 4);
        check.due("saved states", 1, gardens.count(11));
        check.due("undo", 0, gardens.undo());
    }

    // ---- promise 3: pond

    void promise3ReturnsWhereItWas() {
        BentGardens gardens = new BentGardens();
        gardens.garden(8, 7);
        check.due("pond(7, 6)", 0, gardens.pond(7, 6));
        check.due("pond(3, 0)", 67, gardens.pond(3, 0));
        check.due("pond(0, 5)", 3, gardens.pond(0, 5));
        check.due("pond(0, 0)", 50, gardens.pond(0, 0));
    }

    void promise3Moves() {
        BentGardens gardens = new BentGardens();
        gardens.pond(1, 3);
        check.dueText("cells", "..../..../..../.o..", Told.cells(gardens));
        check.due("count(2)", 1, gardens.count(2));
        check.due("count(3)", 3, gardens.count(3));
    }

    void promise3WhereItIs() {
        BentGardens gardens = Told.gardenOf("../#o");
        check.due("pond(1, 1)", 11, gardens.pond(1, 1));
        check.dueText("cells", "../#o", Told.cells(gardens));
        check.due("it is saved, too", 2, gardens.count(11));
    }

    void promise3NoSuchCell() {
        BentGardens gardens = Told.gardenOf("o../.../.../.../...");
        int[][] wrong = {{3, 0}, {0, 5}, {-1, 0}, {0, -1}, {3, 4}, {2, 5}, {8, 0}, {0, 8}, {Integer.MIN_VALUE, 0},
            {Integer.MAX_VALUE, 0}, {0, Integer.MIN_VALUE}, {0, Integer.MAX_VALUE}};
        for (int[] cell : wrong) {
            check.refuses("pond(" + cell[0] + ", " + cell[1] + ")", NO_CELL, gardens,
                () -> gardens.pond(cell[0], cell[1]));
        }
    }

    void promise3LastCell() {
        BentGardens gardens = Told.gardenOf("o../.../.../.../...");
        check.due("pond(2, 4)", 0, gardens.pond(2, 4));
        check.dueText("cells", ".../.../.../.../..o", Told.cells(gardens));
    }

    void promise3WalledCell() {
        BentGardens gardens = Told.gardenOf("#../..o");
        check.refuses("pond(0, 0)", NO_STATE, gardens, () -> gardens.pond(0, 0));
        gardens.wall(0, 0);
        check.due("without the wall", 12, gardens.pond(0, 0));
    }

    void promise3PavedCell() {
        BentGardens gardens = Told.gardenOf("o../...");
        gardens.lay(1, 0, 3);
        int[][] paved = {{1, 0}, {2, 0}, {2, 1}};
        for (int[] cell : paved) {
            check.refuses("on the triple", NO_STATE, gardens, () -> gardens.pond(cell[0], cell[1]));
        }
        check.due("on the cell that it leaves out", 0, gardens.pond(1, 1));
        gardens.lift(2, 0);
        check.due("without the triple", 11, gardens.pond(2, 0));
    }

    void promise3Undoable() {
        BentGardens gardens = new BentGardens();
        gardens.pond(2, 1);
        check.due("undo", 0, gardens.undo());
        check.dueText("cells", "o.../..../..../....", Told.cells(gardens));
    }

    // ---- promise 4: wall

    void promise4WallsACell() {
        BentGardens gardens = new BentGardens();
        check.due("wall(3, 3)", 1, gardens.wall(3, 3));
        check.due("wall(0, 3)", 2, gardens.wall(0, 3));
        check.dueText("cells", "o.../..../..../#..#", Told.cells(gardens));
    }

    void promise4TakesAWallAway() {
        BentGardens gardens = Told.gardenOf("o#../...#");
        check.due("wall(3, 1)", 1, gardens.wall(3, 1));
        check.dueText("cells", "o#../....", Told.cells(gardens));
        check.due("wall(1, 0)", 0, gardens.wall(1, 0));
        check.dueText("cells", "o.../....", Told.cells(gardens));
    }

    void promise4AllButThePond() {
        BentGardens gardens = new BentGardens();
        gardens.garden(8, 8);
        for (int place = 1; place < 64; place++) {
            check.due("wall", place, gardens.wall(place % 8, place / 8));
        }
        check.due("free cells", 0, gardens.count(6));
        check.refuses("wall(0, 0)", NO_STATE, gardens, () -> gardens.wall(0, 0));
    }

    void promise4NoSuchCell() {
        BentGardens gardens = Told.gardenOf("o../.../.../.../...");
        int[][] wrong = {{3, 0}, {0, 5}, {-1, 0}, {0, -1}, {3, 4}, {2, 5}, {8, 0}, {0, 8}, {Integer.MIN_VALUE, 0},
            {Integer.MAX_VALUE, 0}, {0, Integer.MIN_VALUE}, {0, Integer.MAX_VALUE}};
        for (int[] cell : wrong) {
            check.refuses("wall(" + cell[0] + ", " + cell[1] + ")", NO_CELL, gardens,
                () -> gardens.wall(cell[0], cell[1]));
        }
    }

    void promise4ThePond() {
        BentGardens gardens = Told.gardenOf("../.o");
        check.refuses("wall(1, 1)", NO_STATE, gardens, () -> gardens.wall(1, 1));
        gardens.pond(0, 0);
        check.due("where the pond was", 1, gardens.wall(1, 1));
    }

    void promise4PavedCell() {
        BentGardens gardens = Told.gardenOf("o../...");
        gardens.lay(1, 0, 3);
        int[][] paved = {{1, 0}, {2, 0}, {2, 1}};
        for (int[] cell : paved) {
            check.refuses("on the triple", NO_STATE, gardens, () -> gardens.wall(cell[0], cell[1]));
        }
        check.due("on the cell that it leaves out", 1, gardens.wall(1, 1));
        gardens.lift(2, 0);
        check.due("without the triple", 2, gardens.wall(2, 0));
    }

    void promise4Undoable() {
        BentGardens gardens = new BentGardens();
        gardens.wall(2, 1);
        gardens.wall(2, 1);
        check.due("undo", 1, gardens.undo());
        check.dueText("the wall is back", "o.../..#./..../....", Told.cells(gardens));
        check.due("undo", 0, gardens.undo());
        check.dueText("no wall", "o.../..../..../....", Told.cells(gardens));
    }
}
