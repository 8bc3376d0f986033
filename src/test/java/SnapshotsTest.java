/** Promises 14 to 16: keep, goBack, undo. */
public final class SnapshotsTest extends Cases {
    private static final int[] WRONG_SLOTS = {-1, 2, 3, Integer.MAX_VALUE, Integer.MIN_VALUE};

    public static void main(String[] args) {
        new SnapshotsTest().run();
    }

    private static BentGardens twoTriples() {
        BentGardens gardens = new BentGardens();
        gardens.lay(0, 0, 0);
        gardens.lay(2, 0, 1);
        return gardens;
    }

    // ---- promise 14: keep

    void promise14ReturnsTheTriples() {
        BentGardens gardens = new BentGardens();
        check.due("keep(0)", 0, gardens.keep(0));
        gardens.fill();
        check.due("keep(1)", 5, gardens.keep(1));
    }

    void promise14EachSlot() {
        for (int slot = 0; slot < 2; slot++) {
            BentGardens gardens = twoTriples();
            check.due("keep(" + slot + ")", 2, gardens.keep(slot));
            gardens.garden(2, 2);
            check.due("goBack(" + slot + ")", 2, gardens.goBack(slot));
            int other = 1 - slot;
            check.refuses("goBack(" + other + ")", NO_STATE, gardens, () -> gardens.goBack(other));
        }
    }

    void promise14SlotOutOfRange() {
        BentGardens gardens = twoTriples();
        for (int slot : WRONG_SLOTS) {
            check.refuses("keep(" + slot + ")", NO_ARGUMENT, gardens, () -> gardens.keep(slot));
        }
        check.refuses("goBack(0)", NO_STATE, gardens, () -> gardens.goBack(0));
        check.refuses("goBack(1)", NO_STATE, gardens, () -> gardens.goBack(1));
    }

    void promise14InPlaceOfTheOneInTheSlot() {
        BentGardens gardens = new BentGardens();
        gardens.keep(0);
        gardens.lay(1, 1, 1);
        gardens.keep(1);
        gardens.lay(2, 2, 3);
        check.due("keep(0) again", 1, gardens.keep(0));
        gardens.garden(2, 2);
        check.due("goBack(0)", 1, gardens.goBack(0));
        check.dueText("cells", "o.../.a../.aa./....", Told.cells(gardens));
    }

    void promise14NotUndoable() {
        BentGardens gardens = new BentGardens();
        gardens.keep(0);
        check.due("saved states", 0, gardens.count(11));
    }

    void promise14ChangesOnlyTheSlot() {
        BentGardens gardens = twoTriples();
        gardens.append('.');
        String before = Told.cells(gardens) + Told.counts(gardens);
        gardens.keep(1);
        check.dueText("cells and counts", before, Told.cells(gardens) + Told.counts(gardens));
        check.due("the buffer", 1, gardens.clearBuffer());
    }

    // ---- promise 15: goBack

    void promise15ReturnsTheTriplesThen() {
        BentGardens gardens = twoTriples();
        gardens.keep(0);
        gardens.lay(2, 2, 2);
        gardens.keep(1);
        gardens.garden(2, 2);
        check.due("goBack(0)", 2, gardens.goBack(0));
        check.due("goBack(1)", 3, gardens.goBack(1));
    }

    void promise15BringsAllBack() {
        BentGardens gardens = Told.gardenOf("o.#./..../...#");
        gardens.lay(1, 1, 0);
        gardens.lay(1, 1, 0);
        gardens.keep(1);
        gardens.lift(2, 2);
        gardens.lay(9, 9, 0);
        gardens.wall(3, 0);
        gardens.pond(3, 1);
        gardens.garden(5, 2);
        check.due("goBack(1)", 1, gardens.goBack(1));
        check.dueText("cells", "o.#./..a./.aa#", Told.cells(gardens));
        check.dueText("counts", "4 3 0 0 2 1 6 2 0 0 1 6", Told.counts(gardens));
    }

    void promise15BringsTheFlipsBack() {
        BentGardens gardens = Told.gardenOf("...o/...#");
        gardens.lay(0, 0, 2);
        gardens.lay(1, 0, 0);
        gardens.flip(0, 0, false);
        gardens.keep(0);
        gardens.flip(0, 0, false);
        gardens.goBack(0);
        check.due("flips so far", 1, gardens.count(9));
        check.due("flip", 2, gardens.flip(0, 0, false));
    }

    void promise15SlotOutOfRange() {
        BentGardens gardens = twoTriples();
        gardens.keep(0);
        gardens.keep(1);
        for (int slot : WRONG_SLOTS) {
            check.refuses("goBack(" + slot + ")", NO_ARGUMENT, gardens, () -> gardens.goBack(slot));
        }
    }

    void promise15SlotOutOfRangeAndNoSnapshot() {
        BentGardens gardens = new BentGardens();
        for (int slot : WRONG_SLOTS) {
            check.refuses("goBack(" + slot + ")", NO_ARGUMENT, gardens, () -> gardens.goBack(slot));
        }
    }

    void promise15NoSnapshot() {
        BentGardens gardens = twoTriples();
        gardens.keep(1);
        check.refuses("goBack(0)", NO_STATE, gardens, () -> gardens.goBack(0));
    }

    void promise15TheSnapshotStays() {
        BentGardens gardens = twoTriples();
        gardens.keep(0);
        gardens.goBack(0);
        gardens.lift(1, 0);
        gardens.wall(0, 3);
        gardens.pond(0, 1);
        gardens.lay(9, 9, 0);
        check.due("goBack(0) again", 2, gardens.goBack(0));
        check.dueText("cells", "oab./aabb/..../....", Told.cells(gardens));
        check.due("refused so far", 0, gardens.count(10));
    }

    void promise15ToWhereItIs() {
        BentGardens gardens = twoTriples();
        gardens.keep(0);
        check.due("goBack(0)", 2, gardens.goBack(0));
        check.due("it is saved, too", 3, gardens.count(11));
    }

    void promise15Undoable() {
        BentGardens gardens = new BentGardens();
        gardens.keep(0);
        gardens.garden(3, 3);
        gardens.lay(1, 1, 2);
        gardens.goBack(0);
        check.due("saved states stay", 3, gardens.count(11));
        check.due("undo", 2, gardens.undo());
        check.dueText("cells", "o../.aa/.a.", Told.cells(gardens));
    }

    // ---- promise 16: undo

    void promise16ReturnsTheStatesThatAreLeft() {
        BentGardens gardens = twoTriples();
        gardens.wall(3, 3);
        check.due("undo", 2, gardens.undo());
        check.due("undo", 1, gardens.undo());
        check.due("undo", 0, gardens.undo());
    }

    void promise16RestoresTheLatest() {
        BentGardens gardens = twoTriples();
        gardens.wall(3, 3);
        gardens.pond(0, 3);
        gardens.undo();
        check.dueText("before pond", "oab./aabb/..../...#", Told.cells(gardens));
        gardens.undo();
        check.dueText("before wall", "oab./aabb/..../....", Told.cells(gardens));
        gardens.undo();
        check.dueText("before lay", "oa../aa../..../....", Told.cells(gardens));
        gardens.undo();
        check.dueText("as it began", "o.../..../..../....", Told.cells(gardens));
    }

    void promise16DropsIt() {
        BentGardens gardens = twoTriples();
        gardens.undo();
        check.due("saved states", 1, gardens.count(11));
        gardens.lay(2, 2, 2);
        gardens.undo();
        check.dueText("cells", "oa../aa../..../....", Told.cells(gardens));
    }

    void promise16NoSavedState() {
        BentGardens gardens = new BentGardens();
        check.refuses("undo", NO_STATE, gardens, () -> gardens.undo());
        gardens.wall(1, 1);
        gardens.undo();
        check.refuses("undo after the last one", NO_STATE, gardens, () -> gardens.undo());
    }

    void promise16NotUndoable() {
        BentGardens gardens = new BentGardens();
        gardens.wall(1, 1);
        gardens.undo();
        check.due("saved states", 0, gardens.count(11));
    }

    void promise16WhatIsRestoredStaysApart() {
        BentGardens gardens = new BentGardens();
        gardens.keep(0);
        gardens.goBack(0);
        gardens.undo();
        gardens.lay(1, 1, 1);
        gardens.goBack(0);
        check.dueText("the snapshot", "o.../..../..../....", Told.cells(gardens));
        gardens.undo();
        check.dueText("with the triple", "o.../.a../.aa./....", Told.cells(gardens));
    }
}
