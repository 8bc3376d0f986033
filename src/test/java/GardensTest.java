/** Promises 1 to 4: a new object, garden, pond, wall. */
public final class GardensTest {
    private final Check check = new Check();

    public static void main(String[] args) {
        GardensTest test = new GardensTest();
        test.newObject();
        test.garden();
        test.pond();
        test.wall();
        test.check.end();
    }

    private void newObject() {
        BentGardens gardens = new BentGardens();
        check.dueText("a new garden", "o.../..../..../....", Told.cells(gardens));
        int[] counts = {4, 4, 0, 0, 0, 0, 15, 33, 0, 0, 0, 0};
        for (int what = 0; what < counts.length; what++) {
            check.due("new: count(" + what + ")", counts[what], gardens.count(what));
        }
        check.due("new: clearBuffer", 0, gardens.clearBuffer());
        check.refuses("new: goBack(0)", IllegalStateException.class, gardens, () -> gardens.goBack(0));
        check.refuses("new: goBack(1)", IllegalStateException.class, gardens, () -> gardens.goBack(1));
        check.refuses("new: undo", IllegalStateException.class, gardens, () -> gardens.undo());
        check.due("NONE", -1, BentGardens.NONE);
    }

    private void garden() {
        BentGardens gardens = new BentGardens();
        gardens.pond(2, 1);
        gardens.wall(0, 0);
        gardens.lay(0, 2, 0);
        gardens.lay(0, 2, 0);
        check.due("garden(2, 8)", 16, gardens.garden(2, 8));
        check.dueText("garden(2, 8)", "o./../../../../../../..", Told.cells(gardens));
        check.due("garden keeps what was refused", 1, gardens.count(10));
        check.due("garden saves a state", 5, gardens.count(11));
        check.due("garden(8, 2)", 16, gardens.garden(8, 2));
        check.dueText("garden(8, 2)", "o......./........", Told.cells(gardens));
        check.due("garden(8, 8)", 64, gardens.garden(8, 8));
        check.due("garden(3, 2)", 6, gardens.garden(3, 2));
        int[][] wrong = {{1, 4}, {9, 4}, {4, 1}, {4, 9}, {-4, 4}, {Integer.MAX_VALUE, 4}, {4, Integer.MIN_VALUE}};
        for (int[] sides : wrong) {
            check.refuses("garden of " + sides[0] + " by " + sides[1], IllegalArgumentException.class, gardens,
                () -> gardens.garden(sides[0], sides[1]));
        }
    }

    private void pond() {
        BentGardens gardens = new BentGardens();
        check.due("pond(3, 2)", 0, gardens.pond(3, 2));
        check.due("pond(1, 3)", 23, gardens.pond(1, 3));
        check.due("pond where it is", 31, gardens.pond(1, 3));
        check.dueText("pond(1, 3)", "..../..../..../.o..", Told.cells(gardens));
        check.due("pond saves states", 3, gardens.count(11));
        gardens.wall(0, 0);
        gardens.lay(1, 0, 3);
        check.refuses("pond on a wall", IllegalStateException.class, gardens, () -> gardens.pond(0, 0));
        check.refuses("pond on a triple", IllegalStateException.class, gardens, () -> gardens.pond(2, 1));
        check.due("pond on the cell left out", 31, gardens.pond(1, 1));
        int[][] wrong = {{4, 0}, {0, 4}, {-1, 0}, {0, -1}, {Integer.MIN_VALUE, 0}, {0, Integer.MAX_VALUE}};
        for (int[] cell : wrong) {
            check.refuses("pond off", IndexOutOfBoundsException.class, gardens, () -> gardens.pond(cell[0], cell[1]));
        }
    }

    private void wall() {
        BentGardens gardens = new BentGardens();
        check.due("wall(3, 3)", 1, gardens.wall(3, 3));
        check.due("wall(0, 3)", 2, gardens.wall(0, 3));
        check.dueText("two walls", "o.../..../..../#..#", Told.cells(gardens));
        check.due("wall(3, 3) again", 1, gardens.wall(3, 3));
        check.dueText("a wall less", "o.../..../..../#...", Told.cells(gardens));
        check.due("wall saves states", 3, gardens.count(11));
        gardens.lay(1, 0, 3);
        check.refuses("wall on the pond", IllegalStateException.class, gardens, () -> gardens.wall(0, 0));
        check.refuses("wall on a triple", IllegalStateException.class, gardens, () -> gardens.wall(2, 1));
        check.due("wall on the cell left out", 2, gardens.wall(1, 1));
        int[][] wrong = {{4, 0}, {0, 4}, {-1, 0}, {0, -1}, {Integer.MAX_VALUE, 0}, {0, Integer.MIN_VALUE}};
        for (int[] cell : wrong) {
            check.refuses("wall off", IndexOutOfBoundsException.class, gardens, () -> gardens.wall(cell[0], cell[1]));
        }
    }
}
