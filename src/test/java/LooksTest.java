import java.util.function.IntUnaryOperator;

/** Promises 17 to 20: cell, triple, row, count. */
public final class LooksTest {
    private static final int[] WRONG_WHATS = {-1, 3, Integer.MAX_VALUE, Integer.MIN_VALUE};

    private final Check check = new Check();

    public static void main(String[] args) {
        LooksTest test = new LooksTest();
        test.cell();
        test.cellRefused();
        test.triple();
        test.row();
        test.count();
        test.check.end();
    }

    /** The wall at (3, 0), the first triple at the foot, the second one at the left. */
    private static BentGardens example() {
        BentGardens gardens = Told.gardenOf("...#/..../...o");
        gardens.lay(1, 1, 1);
        gardens.lay(0, 0, 2);
        return gardens;
    }

    private static String rowOf(int wide, IntUnaryOperator answer) {
        StringBuilder text = new StringBuilder();
        for (int x = 0; x < wide; x++) {
            text.append(x == 0 ? "" : " ").append(answer.applyAsInt(x));
        }
        return text.toString();
    }

    private void cells(BentGardens gardens, int what, String... due) {
        for (int y = 0; y < due.length; y++) {
            int row = y;
            check.dueText("cells of row " + y + ", what " + what, due[y],
                rowOf(gardens.count(0), x -> gardens.cell(x, row, what)));
        }
    }

    private void cell() {
        BentGardens gardens = example();
        cells(gardens, 0, "3 3 0 2", "3 3 0 0", "0 3 3 1");
        cells(gardens, 1, "1 1 -1 -1", "1 0 -1 -1", "-1 0 0 -1");
        cells(gardens, 2, "0 0 1 0", "0 0 1 1", "0 0 0 0");
        cells(new BentGardens(), 2, "0 4 6 3", "4 10 12 6", "6 12 12 6", "3 6 6 3");
        long before = gardens.digest();
        gardens.cell(2, 0, 2);
        check.due("cell changes nothing", before, gardens.digest());
    }

    private void cellRefused() {
        BentGardens gardens = example();
        int[][] wrong = {{4, 0}, {0, 3}, {-1, 0}, {0, -1}, {Integer.MAX_VALUE, 0}, {0, Integer.MIN_VALUE}};
        for (int[] cell : wrong) {
            check.refuses("cell off", IndexOutOfBoundsException.class, gardens,
                () -> gardens.cell(cell[0], cell[1], 0));
            check.refuses("cell off before what", IndexOutOfBoundsException.class, gardens,
                () -> gardens.cell(cell[0], cell[1], 3));
        }
        for (int what : WRONG_WHATS) {
            check.refuses("cell, what " + what, IllegalArgumentException.class, gardens,
                () -> gardens.cell(3, 2, what));
        }
    }

    private void triple() {
        BentGardens gardens = example();
        check.dueText("triples", "111 002", Told.triples(gardens));
        gardens.lift(1, 2);
        check.due("triple(0, 0)", 0, gardens.triple(0, 0));
        check.due("triple(0, 1)", 0, gardens.triple(0, 1));
        check.due("triple(0, 2)", 2, gardens.triple(0, 2));
        int[] wrong = {-1, 1, 21, Integer.MAX_VALUE, Integer.MIN_VALUE};
        for (int number : wrong) {
            check.refuses("triple " + number, IndexOutOfBoundsException.class, gardens,
                () -> gardens.triple(number, 0));
            check.refuses("triple before what", IndexOutOfBoundsException.class, gardens,
                () -> gardens.triple(number, 3));
        }
        for (int what : WRONG_WHATS) {
            check.refuses("triple, what " + what, IllegalArgumentException.class, gardens,
                () -> gardens.triple(0, what));
        }
        BentGardens full = new BentGardens();
        full.garden(8, 8);
        full.halve();
        check.due("the last triple's column", 6, full.triple(20, 0));
        check.refuses("triple 21", IndexOutOfBoundsException.class, full, () -> full.triple(21, 0));
    }

    private void row() {
        BentGardens gardens = example();
        check.dueText("row 0", "4 8 3", rowOf(3, what -> gardens.row(0, what)));
        check.dueText("row 1", "12 0 3", rowOf(3, what -> gardens.row(1, what)));
        check.dueText("row 2", "1 0 6", rowOf(3, what -> gardens.row(2, what)));
        int[] wrong = {-1, 3, Integer.MAX_VALUE, Integer.MIN_VALUE};
        for (int y : wrong) {
            check.refuses("row " + y, IndexOutOfBoundsException.class, gardens, () -> gardens.row(y, 0));
            check.refuses("row before what", IndexOutOfBoundsException.class, gardens, () -> gardens.row(y, -1));
        }
        for (int what : WRONG_WHATS) {
            check.refuses("row, what " + what, IllegalArgumentException.class, gardens, () -> gardens.row(0, what));
        }
        BentGardens wide = Told.gardenOf("o......./........");
        check.due("the eighth column free", 254, wide.row(0, 0));
        wide.garden(8, 8);
        wide.wall(7, 7);
        check.due("the eighth column walled", 128, wide.row(7, 1));
        check.due("the others free", 127, wide.row(7, 0));
    }

    private void count() {
        BentGardens gardens = example();
        check.dueText("counts", "4 3 3 2 1 2 4 1 0 0 0 3", rowOf(12, what -> gardens.count(what)));
        gardens.lay(3, 1, 0);
        gardens.lift(1, 1);
        gardens.lay(1, 0, 0);
        check.dueText("counts", "4 3 3 2 1 2 4 0 1 0 1 6", rowOf(12, what -> gardens.count(what)));
        gardens.flip(0, 0, false);
        check.dueText("counts", "4 3 3 2 1 2 4 0 1 1 1 6", rowOf(12, what -> gardens.count(what)));
        int[] wrong = {-1, 12, Integer.MAX_VALUE, Integer.MIN_VALUE};
        for (int what : wrong) {
            check.refuses("count " + what, IllegalArgumentException.class, gardens, () -> gardens.count(what));
        }
        BentGardens paved = new BentGardens();
        paved.garden(7, 7);
        check.due("triples in 7 by 7", 141, paved.count(7));
        paved.fill();
        check.due("blocks in 7 by 7", 7, paved.count(8));
    }
}
