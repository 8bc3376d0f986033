/** Promises 5 to 9: lay, lift, flip, fill, halve. */
public final class TriplesTest {
    private final Check check = new Check();

    public static void main(String[] args) {
        TriplesTest test = new TriplesTest();
        test.layEachTurn();
        test.layRefused();
        test.lift();
        test.flipWide();
        test.flipHigh();
        test.flipRefused();
        test.fill();
        test.fillLeastTurns();
        test.halve();
        test.halveRefused();
        test.check.end();
    }

    private void layEachTurn() {
        String[] due = {"..../..a./.aa./...o", "..../.a../.aa./...o", "..../.aa./.a../...o", "..../.aa./..a./...o"};
        for (int turn = 0; turn < 4; turn++) {
            BentGardens gardens = new BentGardens();
            gardens.pond(3, 3);
            check.due("lay(1, 1, " + turn + ")", 0, gardens.lay(1, 1, turn));
            check.dueText("lay(1, 1, " + turn + ")", due[turn], Told.cells(gardens));
            check.due("lay saves a state", 2, gardens.count(11));
        }
    }

    private void layRefused() {
        BentGardens gardens = Told.gardenOf("o#../..../..../....");
        check.due("a block beyond the right", 1, gardens.lay(3, 0, 0));
        check.due("a block beyond the foot", 1, gardens.lay(0, 3, 1));
        check.due("a block beyond the left", 1, gardens.lay(-1, 1, 1));
        check.due("a block far beyond", 1, gardens.lay(Integer.MAX_VALUE, 0, 1));
        check.due("a block far beyond", 1, gardens.lay(0, Integer.MIN_VALUE, 1));
        check.due("the pond before the wall", 2, gardens.lay(0, 0, 2));
        check.due("a wall", 3, gardens.lay(0, 0, 0));
        check.due("neither wall nor triple", 0, gardens.lay(1, 0, 0));
        check.due("a wall before a paved cell", 3, gardens.lay(1, 0, 3));
        check.due("a paved cell", 4, gardens.lay(1, 1, 0));
        check.due("what was refused", 9, gardens.count(10));
        check.due("a refused lay saves a state too", 6, gardens.count(11));
        gardens.undo();
        check.due("what was refused before", 8, gardens.count(10));
        check.due("the pond before a paved cell", 2, gardens.lay(0, 0, 3));
        int[] wrong = {-1, 4, Integer.MAX_VALUE, Integer.MIN_VALUE};
        for (int turn : wrong) {
            check.refuses("lay, turn " + turn, IllegalArgumentException.class, gardens, () -> gardens.lay(9, 9, turn));
        }
    }

    private void lift() {
        BentGardens gardens = new BentGardens();
        gardens.lay(0, 0, 0);
        gardens.lay(2, 0, 1);
        gardens.lay(0, 2, 3);
        gardens.lay(2, 2, 2);
        check.dueText("four triples", "oab./aabb/ccdd/.cd.", Told.cells(gardens));
        check.due("lift(3, 1)", 1, gardens.lift(3, 1));
        check.dueText("one lifted", "oa../aa../bbcc/.bc.", Told.cells(gardens));
        check.dueText("numbers that are less by 1", "000 023 222", Told.triples(gardens));
        check.due("lift saves a state", 5, gardens.count(11));
        check.due("lift(2, 2), the last one", 2, gardens.lift(2, 2));
        check.due("lift(1, 0), the first one", 0, gardens.lift(1, 0));
        check.dueText("one is left", "o.../..../aa../.a..", Told.cells(gardens));
        check.refuses("lift a free cell", IllegalStateException.class, gardens, () -> gardens.lift(1, 0));
        check.refuses("lift the pond", IllegalStateException.class, gardens, () -> gardens.lift(0, 0));
        gardens.wall(3, 3);
        check.refuses("lift a wall", IllegalStateException.class, gardens, () -> gardens.lift(3, 3));
        int[][] wrong = {{4, 0}, {0, 4}, {-1, 0}, {0, -1}, {Integer.MAX_VALUE, 0}, {0, Integer.MIN_VALUE}};
        for (int[] cell : wrong) {
            check.refuses("lift off", IndexOutOfBoundsException.class, gardens, () -> gardens.lift(cell[0], cell[1]));
        }
    }

    private void flipWide() {
        BentGardens gardens = Told.gardenOf("...../...../....o");
        gardens.lay(2, 0, 0);
        gardens.lay(0, 1, 1);
        gardens.lay(1, 0, 2);
        check.dueText("before a flip", ".cca./bcaa./bb..o", Told.cells(gardens));
        check.due("blocks to flip", 1, gardens.count(8));
        check.due("flip(1, 0, false)", 1, gardens.flip(1, 0, false));
        check.dueText("after a flip", ".bcc./abbc./aa..o", Told.cells(gardens));
        check.dueText("the first cell's triple comes first", "011 101 203", Told.triples(gardens));
        check.due("flip it back", 2, gardens.flip(1, 0, false));
        check.dueText("flipped back", "011 102 200", Told.triples(gardens));
        check.due("flips so far", 2, gardens.count(9));
        gardens.garden(2, 2);
        check.due("flips are counted on", 2, gardens.count(9));
    }

    private void flipHigh() {
        BentGardens gardens = new BentGardens();
        gardens.pond(3, 3);
        gardens.lay(0, 1, 0);
        gardens.lay(2, 0, 1);
        gardens.lay(0, 0, 2);
        check.dueText("before a flip", "ccb./cabb/aa../...o", Told.cells(gardens));
        check.due("blocks to flip", 1, gardens.count(8));
        check.due("flip(0, 0, true)", 1, gardens.flip(0, 0, true));
        check.dueText("after a flip", "bba./cbaa/cc../...o", Told.cells(gardens));
        check.dueText("the first cell's triple comes first", "201 003 011", Told.triples(gardens));
        check.due("flip it back", 2, gardens.flip(0, 0, true));
        check.dueText("flipped back", "201 002 010", Told.triples(gardens));
        check.due("flips so far", 2, gardens.count(9));
        check.due("flip saves states", 6, gardens.count(11));
        gardens.undo();
        check.due("a flip less", 1, gardens.count(9));
    }

    private void flipRefused() {
        BentGardens gardens = Told.gardenOf("..../..../..../o...");
        gardens.lay(0, 0, 2);
        gardens.lay(1, 0, 0);
        check.dueText("two triples in a block", "aab./abb./..../o...", Told.cells(gardens));
        check.refuses("flip a high block", IllegalStateException.class, gardens, () -> gardens.flip(0, 0, true));
        check.refuses("flip of one triple", IllegalStateException.class, gardens, () -> gardens.flip(1, 0, false));
        check.refuses("flip of none", IllegalStateException.class, gardens, () -> gardens.flip(1, 2, false));
        BentGardens paved = new BentGardens();
        paved.fill();
        check.refuses("flip of four triples", IllegalStateException.class, paved, () -> paved.flip(1, 1, false));
        int[][] wide = {{2, 0}, {0, 3}, {-1, 0}, {0, -1}, {Integer.MAX_VALUE, 0}, {0, Integer.MAX_VALUE}};
        for (int[] cell : wide) {
            check.refuses("wide flip off", IndexOutOfBoundsException.class, gardens,
                () -> gardens.flip(cell[0], cell[1], false));
        }
        int[][] high = {{3, 0}, {0, 2}, {-1, 0}, {0, -1}, {Integer.MIN_VALUE, 0}, {0, Integer.MIN_VALUE}};
        for (int[] cell : high) {
            check.refuses("high flip off", IndexOutOfBoundsException.class, gardens,
                () -> gardens.flip(cell[0], cell[1], true));
        }
        check.due("flip at the edge", 1, gardens.flip(0, 0, false));
        check.dueText("after a flip", "001 103", Told.triples(gardens));
    }

    private void fill() {
        BentGardens gardens = new BentGardens();
        check.due("fill", 5, gardens.fill());
        check.dueText("the only way", "oabb/aacb/dcce/ddee", Told.cells(gardens));
        check.due("fill saves a state", 1, gardens.count(11));
        check.due("fill of nothing", 0, gardens.fill());
        check.due("fill of nothing saves a state", 2, gardens.count(11));
        gardens.lift(1, 0);
        check.due("fill of the rest", 1, gardens.fill());
        check.dueText("the rest comes last", "oeaa/eeba/cbbd/ccdd", Told.cells(gardens));
        BentGardens walled = Told.gardenOf("o.../.#../..#./....");
        check.refuses("fill without a way", IllegalStateException.class, walled, () -> walled.fill());
        walled.garden(3, 3);
        check.refuses("fill of eight cells", IllegalStateException.class, walled, () -> walled.fill());
        walled.garden(2, 2);
        walled.wall(1, 1);
        check.refuses("fill of two cells", IllegalStateException.class, walled, () -> walled.fill());
    }

    private void fillLeastTurns() {
        BentGardens gardens = Told.gardenOf("o##/.../...");
        check.due("two ways", 2, gardens.ways());
        check.due("fill", 2, gardens.fill());
        check.dueText("the turn 1 before the turn 2", "011 113", Told.triples(gardens));
        BentGardens high = Told.gardenOf("o#../##../##..");
        high.fill();
        check.dueText("the turn 2 before the turn 3", "202 210", Told.triples(high));
        BentGardens greater = new BentGardens();
        greater.garden(7, 7);
        greater.fill();
        check.dueText("7 by 7", "000 201 303 502 510 021 123 322 431 533 042 242 050 250 451 553",
            Told.triples(greater));
    }

    private void halve() {
        String[] two = {"oa/aa", "ao/aa", "aa/oa", "aa/ao"};
        for (int corner = 0; corner < 4; corner++) {
            BentGardens gardens = new BentGardens();
            gardens.garden(2, 2);
            gardens.pond(corner % 2, corner / 2);
            check.due("halve 2 by 2", 1, gardens.halve());
            check.dueText("halve 2 by 2", two[corner], Told.cells(gardens));
            check.due("halve saves a state", 3, gardens.count(11));
        }
        BentGardens gardens = new BentGardens();
        gardens.pond(1, 2);
        check.due("halve 4 by 4", 5, gardens.halve());
        check.dueText("halve 4 by 4", "bbcc/baac/doae/ddee", Told.cells(gardens));
        gardens.garden(4, 4);
        gardens.pond(3, 3);
        gardens.halve();
        check.dueText("the pond in the lower right", "112 002 203 021 222", Told.triples(gardens));
        gardens.garden(4, 4);
        gardens.pond(3, 1);
        gardens.halve();
        check.dueText("the pond in the upper right", "111 002 202 021 220", Told.triples(gardens));
        gardens.garden(8, 8);
        check.due("halve 8 by 8", 21, gardens.halve());
        check.dueText("8 by 8", "330 110 000 203 021 220 513 402 603 423 620 151 042 241 061 260 550 440 643 461 660",
            Told.triples(gardens));
    }

    private void halveRefused() {
        BentGardens gardens = new BentGardens();
        int[][] sides = {{4, 2}, {2, 4}, {3, 3}, {5, 5}, {6, 6}, {7, 7}, {8, 4}};
        for (int[] side : sides) {
            gardens.garden(side[0], side[1]);
            check.refuses("halve " + side[0] + " by " + side[1], IllegalStateException.class, gardens,
                () -> gardens.halve());
        }
        gardens.garden(4, 4);
        gardens.wall(3, 3);
        check.refuses("halve with a wall", IllegalStateException.class, gardens, () -> gardens.halve());
        gardens.wall(3, 3);
        gardens.lay(2, 2, 0);
        check.refuses("halve with a triple", IllegalStateException.class, gardens, () -> gardens.halve());
        gardens.lift(3, 3);
        check.due("halve without", 5, gardens.halve());
    }
}
