/** Promises 5 to 9: lay, lift, flip, fill, halve. */
public final class TriplesTest extends Cases {
    private static final int[] WRONG_TURNS = {-1, 4, 5, Integer.MAX_VALUE, Integer.MIN_VALUE};

    public static void main(String[] args) {
        new TriplesTest().run();
    }

    // ---- promise 5: lay

    void promise5IsLaid() {
        BentGardens gardens = new BentGardens();
        check.due("lay(1, 2, 3)", 0, gardens.lay(1, 2, 3));
        check.dueText("cells", "o.../..../.aa./..a.", Told.cells(gardens));
        check.dueText("triples", "123", Told.triples(gardens));
        check.due("nothing is refused", 0, gardens.count(10));
    }

    void promise5InEachCorner() {
        BentGardens gardens = Told.gardenOf(Told.rows(3, "........") + "/...o..../" + Told.rows(4, "........"));
        check.due("lay(0, 0, 2)", 0, gardens.lay(0, 0, 2));
        check.due("lay(6, 0, 3)", 0, gardens.lay(6, 0, 3));
        check.due("lay(6, 6, 0)", 0, gardens.lay(6, 6, 0));
        check.due("lay(0, 6, 1)", 0, gardens.lay(0, 6, 1));
        check.dueText("cells", "aa....bb/a......b/......../...o..../......../......../d......c/dd....cc",
            Told.cells(gardens));
    }

    void promise5AnyNumbers() {
        BentGardens gardens = new BentGardens();
        int[] far = {Integer.MAX_VALUE, Integer.MIN_VALUE, Integer.MAX_VALUE - 1, 8, -2, 1 << 30, 64, -64};
        for (int number : far) {
            check.due("lay(" + number + ", 0, 0)", 1, gardens.lay(number, 0, 0));
            check.due("lay(0, " + number + ", 0)", 1, gardens.lay(0, number, 0));
            check.due("lay(" + number + ", " + number + ", 0)", 1, gardens.lay(number, number, 0));
        }
        check.due("refused so far", 24, gardens.count(10));
        check.due("triples", 0, gardens.count(5));
    }

    void promise5EachReason() {
        BentGardens gardens = Told.gardenOf("o#../..../..../....");
        check.due("beyond the garden", 1, gardens.lay(3, 0, 0));
        check.due("the pond", 2, gardens.lay(0, 0, 2));
        check.due("a wall", 3, gardens.lay(0, 0, 0));
        check.due("laid", 0, gardens.lay(1, 0, 0));
        check.due("a paved cell", 4, gardens.lay(1, 1, 0));
    }

    void promise5RefusedIsCountedAndSaved() {
        BentGardens gardens = new BentGardens();
        check.due("lay(0, 0, 1)", 2, gardens.lay(0, 0, 1));
        check.dueText("counts", "4 4 0 0 0 0 15 33 0 0 1 1", Told.counts(gardens));
        check.due("undo", 0, gardens.undo());
        check.dueText("counts before", "4 4 0 0 0 0 15 33 0 0 0 0", Told.counts(gardens));
    }

    void promise5LaidIsSaved() {
        BentGardens gardens = new BentGardens();
        gardens.lay(0, 0, 0);
        check.due("saved states", 1, gardens.count(11));
        gardens.undo();
        check.dueText("cells before", "o.../..../..../....", Told.cells(gardens));
    }

    void promise5TurnOutOfRange() {
        BentGardens gardens = new BentGardens();
        for (int turn : WRONG_TURNS) {
            check.refuses("lay(1, 1, " + turn + ")", NO_ARGUMENT, gardens, () -> gardens.lay(1, 1, turn));
        }
    }

    void promise5TurnOutOfRangeBeyondTheGarden() {
        BentGardens gardens = new BentGardens();
        for (int turn : WRONG_TURNS) {
            check.refuses("lay(9, 9, " + turn + ")", NO_ARGUMENT, gardens, () -> gardens.lay(9, 9, turn));
        }
    }

    // ---- promise 6: lift

    private static BentGardens fourTriples() {
        BentGardens gardens = new BentGardens();
        gardens.lay(0, 0, 0);
        gardens.lay(2, 0, 1);
        gardens.lay(0, 2, 3);
        gardens.lay(2, 2, 2);
        return gardens;
    }

    void promise6ReturnsItsNumberBefore() {
        BentGardens gardens = fourTriples();
        check.dueText("before", "oab./aabb/ccdd/.cd.", Told.cells(gardens));
        check.due("lift(3, 1)", 1, gardens.lift(3, 1));
        check.due("lift(2, 2)", 2, gardens.lift(2, 2));
        check.due("lift(1, 0)", 0, gardens.lift(1, 0));
        check.due("lift(1, 3)", 0, gardens.lift(1, 3));
        check.dueText("after", "o.../..../..../....", Told.cells(gardens));
    }

    void promise6ByEachOfItsCells() {
        int[][] cells = {{2, 0}, {2, 1}, {3, 1}};
        for (int[] cell : cells) {
            BentGardens gardens = fourTriples();
            check.due("lift(" + cell[0] + ", " + cell[1] + ")", 1, gardens.lift(cell[0], cell[1]));
            check.dueText("after", "oa../aa../bbcc/.bc.", Told.cells(gardens));
        }
    }

    void promise6TheLastOfMany() {
        BentGardens gardens = new BentGardens();
        gardens.garden(8, 8);
        gardens.halve();
        check.due("lift(7, 7)", 20, gardens.lift(7, 7));
        check.due("triples", 20, gardens.count(5));
        check.due("the first one", 0, gardens.lift(4, 4));
        check.due("triples", 19, gardens.count(5));
    }

    void promise6NoSuchCell() {
        BentGardens gardens = Told.gardenOf(".../..o/.../.../...");
        gardens.lay(0, 0, 2);
        gardens.lay(1, 3, 0);
        gardens.lay(0, 3, 1);
        int[][] wrong = {{3, 0}, {0, 5}, {-1, 0}, {0, -1}, {3, 4}, {2, 5}, {8, 0}, {0, 8}, {Integer.MIN_VALUE, 0},
            {Integer.MAX_VALUE, 0}, {0, Integer.MIN_VALUE}, {0, Integer.MAX_VALUE}};
        for (int[] cell : wrong) {
            check.refuses("lift(" + cell[0] + ", " + cell[1] + ")", NO_CELL, gardens,
                () -> gardens.lift(cell[0], cell[1]));
        }
    }

    void promise6FreeCell() {
        BentGardens gardens = fourTriples();
        check.refuses("lift(3, 0)", NO_STATE, gardens, () -> gardens.lift(3, 0));
        check.refuses("lift(3, 3)", NO_STATE, gardens, () -> gardens.lift(3, 3));
    }

    void promise6ThePond() {
        BentGardens gardens = fourTriples();
        check.refuses("lift(0, 0)", NO_STATE, gardens, () -> gardens.lift(0, 0));
    }

    void promise6AWall() {
        BentGardens gardens = fourTriples();
        gardens.wall(0, 3);
        check.refuses("lift(0, 3)", NO_STATE, gardens, () -> gardens.lift(0, 3));
    }

    void promise6TwiceTheSame() {
        BentGardens gardens = fourTriples();
        gardens.lift(1, 1);
        check.refuses("lift(1, 1)", NO_STATE, gardens, () -> gardens.lift(1, 1));
    }

    void promise6Undoable() {
        BentGardens gardens = fourTriples();
        gardens.lift(1, 1);
        check.due("undo", 4, gardens.undo());
        check.dueText("triples", "000 201 023 222", Told.triples(gardens));
    }

    // ---- promise 7: flip

    /** A high block at (1, 0) with the triples 0 and 1. */
    private static BentGardens high() {
        BentGardens gardens = Told.gardenOf("o..#/#..#/#..#");
        gardens.lay(1, 0, 2);
        gardens.lay(1, 1, 0);
        return gardens;
    }

    /** A wide block at (0, 1) with the triples 0 and 1. */
    private static BentGardens wide() {
        BentGardens gardens = Told.gardenOf("o##/.../...");
        gardens.lay(0, 1, 2);
        gardens.lay(1, 1, 0);
        return gardens;
    }

    void promise7ReturnsTheFlipsSoFar() {
        BentGardens gardens = high();
        for (int flips = 1; flips <= 9; flips++) {
            check.due("flip", flips, gardens.flip(1, 0, true));
            check.due("count(9)", flips, gardens.count(9));
        }
    }

    void promise7HighAndBack() {
        BentGardens gardens = high();
        check.dueText("before", "oaa#/#ab#/#bb#", Told.cells(gardens));
        gardens.flip(1, 0, true);
        check.dueText("flipped", "oaa#/#ba#/#bb#", Told.cells(gardens));
        check.dueText("flipped", "103 111", Told.triples(gardens));
        gardens.flip(1, 0, true);
        check.dueText("flipped back", "102 110", Told.triples(gardens));
    }

    void promise7WideAndBack() {
        BentGardens gardens = wide();
        check.dueText("before", "o##/aab/abb", Told.cells(gardens));
        gardens.flip(0, 1, false);
        check.dueText("flipped", "o##/abb/aab", Told.cells(gardens));
        check.dueText("flipped", "011 113", Told.triples(gardens));
        gardens.flip(0, 1, false);
        check.dueText("flipped back", "012 110", Told.triples(gardens));
    }

    void promise7HighBlockNotInTheGarden() {
        BentGardens gardens = Told.gardenOf("..../..../..../..../...o");
        int[][] wrong = {{-1, 0}, {0, -1}, {3, 0}, {0, 3}, {3, 2}, {2, 3}, {4, 0}, {0, 5},
            {Integer.MAX_VALUE, 0}, {0, Integer.MAX_VALUE}, {Integer.MIN_VALUE, 0}, {0, Integer.MIN_VALUE}};
        for (int[] cell : wrong) {
            check.refuses("flip(" + cell[0] + ", " + cell[1] + ", true)", NO_CELL, gardens,
                () -> gardens.flip(cell[0], cell[1], true));
        }
        check.refuses("the last block in it", NO_STATE, gardens, () -> gardens.flip(2, 2, true));
    }

    void promise7WideBlockNotInTheGarden() {
        BentGardens gardens = Told.gardenOf("..../..../..../..../...o");
        int[][] wrong = {{-1, 0}, {0, -1}, {2, 0}, {0, 4}, {2, 3}, {1, 4}, {4, 0}, {0, 5},
            {Integer.MAX_VALUE, 0}, {0, Integer.MAX_VALUE}, {Integer.MIN_VALUE, 0}, {0, Integer.MIN_VALUE}};
        for (int[] cell : wrong) {
            check.refuses("flip(" + cell[0] + ", " + cell[1] + ", false)", NO_CELL, gardens,
                () -> gardens.flip(cell[0], cell[1], false));
        }
        check.refuses("the last block in it", NO_STATE, gardens, () -> gardens.flip(1, 3, false));
    }

    void promise7InEachCorner() {
        BentGardens great = Told.gardenOf(Told.rows(4, "........") + "/o.......");
        int[][] laid = {{0, 0, 2}, {1, 0, 0}, {6, 0, 2}, {6, 1, 0}, {5, 3, 1}, {6, 3, 3}};
        for (int[] triple : laid) {
            great.lay(triple[0], triple[1], triple[2]);
        }
        check.due("upper left", 1, great.flip(0, 0, false));
        check.due("upper right", 2, great.flip(6, 0, true));
        check.due("lower right", 3, great.flip(5, 3, false));
        check.dueText("triples", "001 103 603 611 532 630", Told.triples(great));
    }

    void promise7CannotBeFlipped() {
        BentGardens gardens = Told.gardenOf("..../..../..../o...");
        check.refuses("a free block", NO_STATE, gardens, () -> gardens.flip(0, 0, false));
        gardens.lay(0, 0, 2);
        check.refuses("one triple", NO_STATE, gardens, () -> gardens.flip(0, 0, false));
        check.refuses("one triple, high", NO_STATE, gardens, () -> gardens.flip(0, 0, true));
        gardens.lay(1, 0, 0);
        check.refuses("two triples, not in this block", NO_STATE, gardens, () -> gardens.flip(0, 0, true));
        check.refuses("parts of two triples", NO_STATE, gardens, () -> gardens.flip(1, 0, false));
        check.due("two triples in it", 1, gardens.flip(0, 0, false));
    }

    void promise7Undoable() {
        BentGardens gardens = wide();
        gardens.flip(0, 1, false);
        check.due("saved states", 4, gardens.count(11));
        gardens.undo();
        check.dueText("triples before", "012 110", Told.triples(gardens));
        check.due("flips before", 0, gardens.count(9));
    }

    // ---- promise 8: fill

    void promise8LaysTheOnlyWay() {
        BentGardens gardens = new BentGardens();
        check.due("fill", 5, gardens.fill());
        check.dueText("cells", "oabb/aacb/dcce/ddee", Told.cells(gardens));
        check.due("free cells", 0, gardens.count(6));
    }

    void promise8OrderInWhichTheyAreFound() {
        BentGardens gardens = Told.gardenOf(7, 7, 0, 0);
        check.due("fill", 16, gardens.fill());
        check.dueText("triples", "000 201 303 502 510 021 123 322 431 533 042 242 050 250 451 553",
            Told.triples(gardens));
    }

    void promise8LaysTheRest() {
        BentGardens gardens = new BentGardens();
        gardens.fill();
        gardens.lift(1, 0);
        gardens.lift(3, 3);
        check.due("fill", 2, gardens.fill());
        check.dueText("the rest comes last", "odaa/ddba/cbbe/ccee", Told.cells(gardens));
    }

    void promise8NothingIsFree() {
        BentGardens gardens = Told.gardenOf("o#/##");
        check.due("fill", 0, gardens.fill());
        check.due("it is saved, too", 2, gardens.count(11));
        BentGardens paved = new BentGardens();
        paved.fill();
        check.due("fill again", 0, paved.fill());
        check.dueText("triples", "000 203 110 021 220", Told.triples(paved));
        check.due("undo", 1, paved.undo());
    }

    void promise8NoWay() {
        String[] gardens = {"o../.../...", "o#/#.", "o.../.#../..#./....", "o##../##..#", "...#./#.#../o####", "o./.#"};
        for (String garden : gardens) {
            BentGardens told = Told.gardenOf(garden);
            check.refuses("fill of " + garden, NO_STATE, told, () -> told.fill());
        }
    }

    void promise8NoWayAnyMore() {
        BentGardens gardens = new BentGardens();
        gardens.lay(1, 0, 0);
        check.refuses("fill", NO_STATE, gardens, () -> gardens.fill());
        gardens.lift(2, 0);
        check.due("fill", 5, gardens.fill());
    }

    void promise8EachPondOfEightByEight() {
        for (int place = 0; place < 64; place += 5) {
            BentGardens gardens = Told.gardenOf(8, 8, place % 8, place / 8);
            check.due("fill", 21, gardens.fill());
            check.due("free cells", 0, gardens.count(6));
            check.due("share", 1, gardens.pavedShare() == 1.0 ? 1 : 0);
        }
    }

    void promise8Undoable() {
        BentGardens gardens = Told.gardenOf("o##/.../...");
        gardens.fill();
        check.due("undo", 1, gardens.undo());
        check.dueText("cells before", "o##/.../...", Told.cells(gardens));
    }

    // ---- promise 9: halve

    void promise9TwoByTwo() {
        String[] due = {"oa/aa", "ao/aa", "aa/oa", "aa/ao"};
        for (int corner = 0; corner < 4; corner++) {
            BentGardens gardens = Told.gardenOf(2, 2, corner % 2, corner / 2);
            check.due("halve", 1, gardens.halve());
            check.dueText("cells", due[corner], Told.cells(gardens));
        }
    }

    void promise9FourByFour() {
        BentGardens gardens = Told.gardenOf(4, 4, 1, 2);
        check.due("halve", 5, gardens.halve());
        check.dueText("cells", "bbcc/baac/doae/ddee", Told.cells(gardens));
    }

    void promise9EightByEight() {
        BentGardens gardens = Told.gardenOf(8, 8, 0, 0);
        check.due("halve", 21, gardens.halve());
        check.dueText("triples",
            "330 110 000 203 021 220 513 402 603 423 620 151 042 241 061 260 550 440 643 461 660",
            Told.triples(gardens));
    }

    void promise9EachPond() {
        int[] sides = {2, 4, 8};
        for (int side : sides) {
            for (int place = 0; place < side * side; place++) {
                BentGardens gardens = Told.gardenOf(side, side, place % side, place / side);
                check.due("halve", (side * side - 1) / 3, gardens.halve());
                check.due("free cells", 0, gardens.count(6));
                check.due("triples", (side * side - 1) / 3, gardens.count(5));
                check.due("the pond", 1, gardens.cell(place % side, place / side, 0));
            }
        }
    }

    void promise9CannotBePaved() {
        BentGardens gardens = new BentGardens();
        gardens.wall(3, 3);
        check.refuses("a wall", NO_STATE, gardens, () -> gardens.halve());
        gardens.garden(6, 6);
        check.refuses("6 by 6", NO_STATE, gardens, () -> gardens.halve());
        gardens.garden(2, 2);
        gardens.halve();
        check.refuses("a second time", NO_STATE, gardens, () -> gardens.halve());
    }

    void promise9Undoable() {
        BentGardens gardens = new BentGardens();
        gardens.halve();
        check.due("saved states", 1, gardens.count(11));
        check.due("undo", 0, gardens.undo());
        check.dueText("cells before", "o.../..../..../....", Told.cells(gardens));
    }
}
