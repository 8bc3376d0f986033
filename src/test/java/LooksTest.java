/** Promises 17 to 20: cell, triple, row, count. */
public final class LooksTest extends Cases {
    private static final int[] WRONG_WHATS = {-1, 3, 4, Integer.MAX_VALUE, Integer.MIN_VALUE};

    public static void main(String[] args) {
        new LooksTest().run();
    }

    /** The wall at (3, 0), the first triple at the foot, the second one at the left. */
    private static BentGardens example() {
        BentGardens gardens = Told.gardenOf("...#/..../...o");
        gardens.lay(1, 1, 1);
        gardens.lay(0, 0, 2);
        return gardens;
    }

    // ---- promise 17: cell

    private void cells(BentGardens gardens, int what, String... due) {
        for (int y = 0; y < due.length; y++) {
            int row = y;
            check.dueText("cells of row " + y + ", what " + what, due[y],
                Told.answers(gardens.count(0), x -> gardens.cell(x, row, what)));
        }
    }

    void promise17EachKind() {
        cells(example(), 0, "3 3 0 2", "3 3 0 0", "0 3 3 1");
    }

    void promise17TheTripleThatCoversIt() {
        cells(example(), 1, "1 1 -1 -1", "1 0 -1 -1", "-1 0 0 -1");
    }

    void promise17TriplesThatCouldCoverIt() {
        cells(example(), 2, "0 0 1 0", "0 0 1 1", "0 0 0 0");
        cells(new BentGardens(), 2, "0 4 6 3", "4 10 12 6", "6 12 12 6", "3 6 6 3");
    }

    void promise17NoneCouldCoverWhatIsNotFree() {
        BentGardens gardens = new BentGardens();
        gardens.wall(2, 2);
        gardens.lay(0, 2, 1);
        check.due("the pond", 0, gardens.cell(0, 0, 2));
        check.due("a wall", 0, gardens.cell(2, 2, 2));
        check.due("a paved cell", 0, gardens.cell(1, 3, 2));
    }

    void promise17NoTripleCoversIt() {
        BentGardens gardens = example();
        check.due("a free cell", -1, gardens.cell(0, 2, 1));
        check.due("the pond", -1, gardens.cell(3, 2, 1));
        check.due("a wall", -1, gardens.cell(3, 0, 1));
    }

    void promise17NoSuchCell() {
        BentGardens gardens = example();
        int[][] wrong = {{4, 0}, {0, 3}, {-1, 0}, {0, -1}, {4, 2}, {3, 3}, {8, 0}, {0, 8}, {Integer.MAX_VALUE, 0},
            {0, Integer.MAX_VALUE}, {Integer.MIN_VALUE, 0}, {0, Integer.MIN_VALUE}};
        for (int[] cell : wrong) {
            for (int what = 0; what < 3; what++) {
                int asked = what;
                check.refuses("cell(" + cell[0] + ", " + cell[1] + ", " + what + ")", NO_CELL, gardens,
                    () -> gardens.cell(cell[0], cell[1], asked));
            }
        }
    }

    void promise17WhatOutOfRange() {
        BentGardens gardens = example();
        for (int what : WRONG_WHATS) {
            check.refuses("cell(3, 2, " + what + ")", NO_ARGUMENT, gardens, () -> gardens.cell(3, 2, what));
        }
    }

    void promise17NoSuchCellAndWhatOutOfRange() {
        BentGardens gardens = example();
        for (int what : WRONG_WHATS) {
            check.refuses("cell(4, 0, " + what + ")", NO_CELL, gardens, () -> gardens.cell(4, 0, what));
        }
    }

    // ---- promise 18: triple

    void promise18EachProperty() {
        BentGardens gardens = Told.gardenOf("......../......../......../o.......");
        gardens.lay(6, 2, 3);
        check.due("the column", 6, gardens.triple(0, 0));
        check.due("the row", 2, gardens.triple(0, 1));
        check.due("the turn", 3, gardens.triple(0, 2));
    }

    void promise18TheBlockAndNotTheFirstCell() {
        BentGardens gardens = Told.gardenOf("o.../....");
        gardens.lay(2, 0, 0);
        check.dueText("cells", "o..a/..aa", Told.cells(gardens));
        check.due("the column", 2, gardens.triple(0, 0));
        check.due("the row", 0, gardens.triple(0, 1));
    }

    void promise18NoSuchTriple() {
        BentGardens gardens = example();
        int[] wrong = {-1, 2, 3, 21, Integer.MAX_VALUE, Integer.MIN_VALUE};
        for (int number : wrong) {
            check.refuses("triple(" + number + ", 0)", NO_CELL, gardens, () -> gardens.triple(number, 0));
        }
    }

    void promise18WithoutTriples() {
        BentGardens gardens = new BentGardens();
        check.refuses("triple(0, 0)", NO_CELL, gardens, () -> gardens.triple(0, 0));
    }

    void promise18TheMostTriples() {
        BentGardens gardens = Told.gardenOf(8, 8, 0, 0);
        gardens.halve();
        check.due("triple(20, 0)", 6, gardens.triple(20, 0));
        check.due("triple(20, 1)", 6, gardens.triple(20, 1));
        check.due("triple(20, 2)", 0, gardens.triple(20, 2));
        check.refuses("triple(21, 0)", NO_CELL, gardens, () -> gardens.triple(21, 0));
    }

    void promise18AfterALift() {
        BentGardens gardens = example();
        gardens.lift(1, 2);
        check.dueText("triples", "002", Told.triples(gardens));
        check.refuses("triple(1, 0)", NO_CELL, gardens, () -> gardens.triple(1, 0));
    }

    void promise18WhatOutOfRange() {
        BentGardens gardens = example();
        for (int what : WRONG_WHATS) {
            check.refuses("triple(1, " + what + ")", NO_ARGUMENT, gardens, () -> gardens.triple(1, what));
        }
    }

    void promise18NoSuchTripleAndWhatOutOfRange() {
        BentGardens gardens = example();
        for (int what : WRONG_WHATS) {
            check.refuses("triple(2, " + what + ")", NO_CELL, gardens, () -> gardens.triple(2, what));
            check.refuses("triple(-1, " + what + ")", NO_CELL, gardens, () -> gardens.triple(-1, what));
        }
    }

    // ---- promise 19: row

    void promise19EachMask() {
        BentGardens gardens = example();
        check.dueText("row 0", "4 8 3", Told.answers(3, what -> gardens.row(0, what)));
        check.dueText("row 1", "12 0 3", Told.answers(3, what -> gardens.row(1, what)));
        check.dueText("row 2", "1 0 6", Told.answers(3, what -> gardens.row(2, what)));
    }

    void promise19EighthColumn() {
        BentGardens gardens = Told.gardenOf(Told.rows(8, "........").replaceFirst("\\.", "o"));
        check.due("row(0, 0)", 254, gardens.row(0, 0));
        check.due("row(7, 0)", 255, gardens.row(7, 0));
        gardens.wall(7, 7);
        check.due("row(7, 1)", 128, gardens.row(7, 1));
        gardens.lay(6, 0, 0);
        check.due("row(0, 2)", 128, gardens.row(0, 2));
        check.due("row(1, 2)", 192, gardens.row(1, 2));
    }

    void promise19OnlyTheGardensColumns() {
        check.due("row(1, 0) of 2 by 2", 3, Told.gardenOf("o./..").row(1, 0));
    }

    void promise19NoSuchRow() {
        BentGardens gardens = example();
        int[] wrong = {-1, 3, 8, Integer.MAX_VALUE, Integer.MIN_VALUE};
        for (int y : wrong) {
            check.refuses("row(" + y + ", 0)", NO_CELL, gardens, () -> gardens.row(y, 0));
        }
        BentGardens high = Told.gardenOf(3, 8, 0, 0);
        check.refuses("row(8, 0) of 8 rows", NO_CELL, high, () -> high.row(8, 0));
    }

    void promise19WhatOutOfRange() {
        BentGardens gardens = example();
        for (int what : WRONG_WHATS) {
            check.refuses("row(2, " + what + ")", NO_ARGUMENT, gardens, () -> gardens.row(2, what));
        }
    }

    void promise19NoSuchRowAndWhatOutOfRange() {
        BentGardens gardens = example();
        for (int what : WRONG_WHATS) {
            check.refuses("row(3, " + what + ")", NO_CELL, gardens, () -> gardens.row(3, what));
        }
    }

    // ---- promise 20: count

    void promise20Each() {
        BentGardens gardens = example();
        check.dueText("counts", "4 3 3 2 1 2 4 1 0 0 0 3", Told.counts(gardens));
        gardens.lay(3, 1, 0);
        gardens.lift(1, 1);
        gardens.lay(1, 0, 0);
        check.dueText("counts", "4 3 3 2 1 2 4 0 1 0 1 6", Told.counts(gardens));
        gardens.flip(0, 0, false);
        check.dueText("counts", "4 3 3 2 1 2 4 0 1 1 1 6", Told.counts(gardens));
    }

    void promise20WhatOutOfRange() {
        BentGardens gardens = example();
        int[] wrong = {-1, 12, 13, Integer.MAX_VALUE, Integer.MIN_VALUE};
        for (int what : wrong) {
            check.refuses("count(" + what + ")", NO_ARGUMENT, gardens, () -> gardens.count(what));
        }
    }

    void promise20NothingIsFree() {
        BentGardens gardens = Told.gardenOf("##/#o");
        check.dueText("counts", "2 2 1 1 3 0 0 0 0 0 0 1", Told.counts(gardens));
    }

    void promise20TriplesThatCouldBeLaid() {
        check.due("2 by 2", 1, Told.gardenOf("o./..").count(7));
        check.due("3 by 2", 5, Told.gardenOf("o../...").count(7));
        check.due("7 by 7", 141, Told.gardenOf(7, 7, 0, 0).count(7));
        check.due("8 by 8, the pond in a corner", 193, Told.gardenOf(8, 8, 7, 7).count(7));
        check.due("8 by 8, the pond inside", 184, Told.gardenOf(8, 8, 4, 4).count(7));
    }

    void promise20BlocksThatCouldBeFlipped() {
        BentGardens gardens = Told.gardenOf("o......./........");
        gardens.wall(7, 0);
        gardens.wall(7, 1);
        gardens.wall(0, 1);
        gardens.lay(1, 0, 2);
        gardens.lay(2, 0, 0);
        gardens.lay(4, 0, 1);
        gardens.lay(5, 0, 3);
        check.due("two wide ones", 2, gardens.count(8));
        gardens.lift(6, 0);
        check.due("one", 1, gardens.count(8));
        BentGardens paved = Told.gardenOf(7, 7, 0, 0);
        paved.fill();
        check.due("blocks in 7 by 7", 7, paved.count(8));
    }

    void promise20SavedStatesAreSixAtMost() {
        BentGardens gardens = new BentGardens();
        for (int walls = 1; walls <= 9; walls++) {
            gardens.wall(walls % 4, walls / 4);
            check.due("count(11)", Math.min(walls, 6), gardens.count(11));
        }
    }

    void promise20LooksChangeNothing() {
        BentGardens gardens = example();
        String before = Told.all(gardens);
        gardens.cell(2, 0, 2);
        gardens.triple(0, 0);
        gardens.row(0, 0);
        gardens.count(7);
        check.dueText("all", before, Told.all(gardens));
    }
}
