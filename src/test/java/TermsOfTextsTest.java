import java.util.function.Consumer;

/** The other terms of the document: input text, snapshots and undo, exceptions. */
public final class TermsOfTextsTest extends Cases {
    public static void main(String[] args) {
        new TermsOfTextsTest().run();
    }

    // ---- input text

    private static BentGardens withBuffer(String text) {
        BentGardens gardens = new BentGardens();
        Told.append(gardens, text);
        return gardens;
    }

    /** A garden as a text: no syntax error, and load() lays it out. */
    private void garden(String text) {
        BentGardens gardens = withBuffer(text);
        check.due("firstError of " + text, text.length(), gardens.firstError());
        check.dueText("load of " + text, free(text) + "", Check.outcome(() -> gardens.load()));
        check.dueText("loaded", text, Told.cells(gardens));
    }

    private static long free(String text) {
        return text.chars().filter(code -> code == '.').count();
    }

    /** No garden as a text, but one begins so. */
    private void beginning(String text) {
        noGarden(text, text.length());
    }

    private void noGarden(String text, int error) {
        BentGardens gardens = withBuffer(text);
        check.due("firstError of " + text, error, gardens.firstError());
        check.refuses("load of " + text, NO_ARGUMENT, gardens, () -> gardens.load());
        check.due("the buffer stays", text.length(), gardens.clearBuffer());
    }

    void termInputTextAtMost71Characters() {
        BentGardens gardens = withBuffer("#".repeat(70));
        check.due("the 71st", 71, gardens.append('#'));
        check.refuses("the 72nd", NO_STATE, gardens, () -> gardens.append('#'));
    }

    void termInputTextTwoRows() {
        garden("o./..");
        garden("......../.......o");
        beginning("o.");
        beginning("o./");
        beginning("......o.");
    }

    void termInputTextEightRows() {
        garden("o./" + Told.rows(7, ".."));
        garden(Told.rows(7, "..#") + "/.o.");
    }

    void termInputTextNineRows() {
        noGarden("o./" + Told.rows(7, "..") + "/", 23);
        noGarden("o./" + Told.rows(8, ".."), 23);
        noGarden(Told.rows(7, "###") + "/##o/###", 31);
    }

    void termInputTextNothingBehindEightRows() {
        String text = "o./" + Told.rows(7, "..");
        for (int code = 33; code <= 126; code++) {
            noGarden(text + (char) code, 23);
        }
    }

    void termInputTextRowShorterThanTheFirstOne() {
        noGarden("o../../...", 6);
        noGarden("o../.../../", 10);
        noGarden("o..//", 4);
        beginning("o../..");
    }

    void termInputTextRowLongerThanTheFirstOne() {
        noGarden("o./...", 5);
        noGarden("o../...#", 7);
        noGarden("../.../o.", 5);
        noGarden(".../...o", 7);
    }

    void termInputTextTwoToEightSigns() {
        for (int wide = 2; wide <= 8; wide++) {
            garden("o" + ".".repeat(wide - 1) + "/" + "#".repeat(wide));
            garden("#".repeat(wide) + "/" + ".".repeat(wide - 1) + "o");
        }
    }

    void termInputTextOneSign() {
        noGarden("o/.", 1);
        noGarden("./o", 1);
        noGarden("#/", 1);
        noGarden("/", 0);
    }

    void termInputTextNineSigns() {
        noGarden("o........", 8);
        noGarden("........o", 8);
        noGarden("#########", 8);
        beginning("........");
    }

    void termInputTextOtherSigns() {
        for (int code = 33; code <= 126; code++) {
            if (".#o/".indexOf(code) < 0) {
                noGarden((char) code + "o", 0);
                noGarden("o" + (char) code + "/..", 1);
                noGarden("o./." + (char) code, 4);
                noGarden("o." + (char) code + "..", 2);
            }
        }
    }

    void termInputTextJustOnePond() {
        noGarden("oo/..", 1);
        noGarden("o./.o", 4);
        noGarden("../oo", 4);
        noGarden("o./../o.", 6);
    }

    void termInputTextNoPond() {
        beginning("../..");
        beginning("##/##/##");
        beginning(Told.rows(7, "...."));
        beginning(Told.rows(7, "....") + "/...");
    }

    void termInputTextNoPondBeforeTheVeryLastCell() {
        for (int wide = 2; wide <= 8; wide++) {
            String rows = Told.rows(7, ".".repeat(wide)) + "/" + "#".repeat(wide - 1);
            noGarden(rows + ".", rows.length());
            noGarden(rows + "#", rows.length());
            noGarden(rows + "/", rows.length());
            garden(rows + "o");
        }
    }

    void termInputTextPondInTheEighthRowBeforeTheLastCell() {
        garden(Told.rows(7, "..") + "/o.");
        garden(Told.rows(7, "...") + "/.o#");
    }

    void termInputTextNoPondBeforeTheLastCellOfALesserRow() {
        beginning(Told.rows(6, "..."));
        garden(Told.rows(7, "...") + "/o..");
    }

    void termInputTextFromLeftToRight() {
        noGarden("x", 0);
        noGarden(".x.x", 1);
        noGarden("o./o", 3);
        noGarden("o./.xo", 4);
    }

    void termInputTextSlashAfterAWholeGarden() {
        beginning("o./../");
        beginning("o./../.");
        garden("o./../..");
    }

    void termInputTextEmpty() {
        beginning("");
    }

    // ---- snapshots, undo

    void termSnapshotsTwoSlots() {
        BentGardens gardens = new BentGardens();
        gardens.keep(0);
        gardens.lay(2, 2, 0);
        gardens.keep(1);
        check.refuses("keep(2)", NO_ARGUMENT, gardens, () -> gardens.keep(2));
        check.refuses("keep(-1)", NO_ARGUMENT, gardens, () -> gardens.keep(-1));
        check.due("goBack(0)", 0, gardens.goBack(0));
        check.due("goBack(1)", 1, gardens.goBack(1));
    }

    void termSnapshotsWithoutTheBuffer() {
        BentGardens gardens = withBuffer("o.");
        gardens.keep(0);
        gardens.append('/');
        gardens.goBack(0);
        check.due("append", 4, gardens.append('.'));
        gardens.clearBuffer();
        gardens.goBack(0);
        check.due("append", 1, gardens.append('.'));
    }

    void termSnapshotsWithoutTheSlots() {
        BentGardens gardens = new BentGardens();
        gardens.keep(0);
        gardens.lay(2, 2, 0);
        gardens.keep(1);
        gardens.goBack(0);
        check.due("the other slot stays", 1, gardens.goBack(1));
        gardens.keep(0);
        gardens.goBack(1);
        check.due("the slot's newer one", 1, gardens.goBack(0));
    }

    void termSnapshotsWithoutTheSavedStates() {
        BentGardens gardens = new BentGardens();
        gardens.wall(1, 1);
        gardens.keep(0);
        gardens.wall(2, 1);
        gardens.wall(3, 1);
        gardens.goBack(0);
        check.due("saved states", 4, gardens.count(11));
        check.due("undo", 3, gardens.undo());
        check.due("walls", 3, gardens.count(4));
    }

    void termSnapshotsHoldAllElse() {
        BentGardens gardens = Told.gardenOf("...o/...#");
        gardens.lay(0, 0, 2);
        gardens.lay(1, 0, 0);
        gardens.lay(1, 0, 0);
        gardens.flip(0, 0, false);
        gardens.keep(1);
        gardens.flip(0, 0, false);
        gardens.lay(9, 9, 1);
        gardens.garden(3, 3);
        gardens.goBack(1);
        check.dueText("cells", "abbo/aab#", Told.cells(gardens));
        check.dueText("triples", "001 103", Told.triples(gardens));
        check.dueText("counts", "4 2 3 0 1 2 0 0 1 1 1 6", Told.counts(gardens));
    }

    /** Two ways are left in it; a snapshot without the triple is in the slot 0. */
    private static BentGardens started() {
        BentGardens gardens = Told.gardenOf("o##/.../...");
        gardens.keep(0);
        gardens.lay(0, 1, 1);
        gardens.lay(0, 1, 1);
        return gardens;
    }

    private static BentGardens paved() {
        BentGardens gardens = started();
        gardens.fill();
        return gardens;
    }

    private void undone(BentGardens gardens, Consumer<BentGardens> call) {
        String before = Told.all(gardens);
        int states = gardens.count(11);
        call.accept(gardens);
        check.due("a state is saved", states + 1, gardens.count(11));
        check.due("undo", states, gardens.undo());
        check.dueText("undone", before, Told.all(gardens));
    }

    void termUndoGarden() {
        undone(started(), gardens -> gardens.garden(3, 2));
    }

    void termUndoPond() {
        undone(started(), gardens -> gardens.pond(2, 2));
    }

    void termUndoWall() {
        undone(started(), gardens -> gardens.wall(2, 2));
        undone(started(), gardens -> gardens.wall(2, 0));
    }

    void termUndoLay() {
        undone(started(), gardens -> gardens.lay(1, 1, 3));
    }

    void termUndoLift() {
        undone(paved(), gardens -> gardens.lift(0, 1));
    }

    void termUndoFlip() {
        undone(paved(), gardens -> gardens.flip(0, 1, false));
    }

    void termUndoFill() {
        undone(started(), gardens -> gardens.fill());
    }

    void termUndoHalve() {
        undone(new BentGardens(), gardens -> gardens.halve());
    }

    void termUndoLoad() {
        BentGardens gardens = started();
        String before = Told.all(gardens);
        Told.append(gardens, "o#/..");
        gardens.load();
        check.due("undo", 3, gardens.undo());
        check.dueText("undone, the buffer stays cleared", before, Told.all(gardens));
    }

    void termUndoGoBack() {
        undone(started(), gardens -> gardens.goBack(0));
    }

    void termUndoAlsoIfNothingChanges() {
        undone(new BentGardens(), gardens -> gardens.garden(4, 4));
        undone(new BentGardens(), gardens -> gardens.pond(0, 0));
        undone(paved(), gardens -> gardens.fill());
        BentGardens kept = started();
        kept.keep(1);
        undone(kept, gardens -> gardens.goBack(1));
    }

    void termUndoAlsoIfItIsRefused() {
        undone(started(), gardens -> gardens.lay(1, 1, 2));
        undone(started(), gardens -> gardens.lay(9, 9, 0));
        undone(started(), gardens -> gardens.lay(0, 0, 0));
    }

    void termUndoNotTheBuffer() {
        BentGardens gardens = new BentGardens();
        gardens.wall(1, 1);
        Told.append(gardens, "o#");
        gardens.undo();
        check.due("the buffer stays", 2, gardens.clearBuffer());
        gardens.append('.');
        gardens.wall(1, 1);
        gardens.clearBuffer();
        gardens.undo();
        check.due("the buffer stays cleared", 0, gardens.clearBuffer());
    }

    void termUndoNotTheSlots() {
        BentGardens gardens = new BentGardens();
        gardens.lay(2, 2, 0);
        gardens.keep(0);
        gardens.undo();
        check.due("the snapshot stays", 1, gardens.goBack(0));
        gardens.undo();
        gardens.wall(1, 1);
        gardens.keep(0);
        gardens.undo();
        check.due("the newer snapshot stays", 0, gardens.goBack(0));
        check.due("its wall", 1, gardens.count(4));
    }

    void termUndoWhatIsCountedSoFar() {
        BentGardens gardens = paved();
        gardens.flip(0, 1, false);
        gardens.lay(0, 1, 1);
        check.due("refused so far", 2, gardens.count(10));
        gardens.undo();
        check.due("refused before", 1, gardens.count(10));
        gardens.undo();
        check.due("flips before", 0, gardens.count(9));
    }

    void termUndoSixStates() {
        BentGardens gardens = new BentGardens();
        for (int x = 1; x <= 6; x++) {
            gardens.wall(x % 4, x / 4 + 1);
        }
        for (int left = 5; left >= 0; left--) {
            check.due("undo", left, gardens.undo());
            check.due("walls", left, gardens.count(4));
        }
        check.refuses("undo", NO_STATE, gardens, () -> gardens.undo());
    }

    void termUndoTheOldestIsDroppedFirst() {
        BentGardens gardens = new BentGardens();
        for (int x = 1; x <= 7; x++) {
            gardens.wall(x % 4, x / 4 + 1);
        }
        check.due("saved states", 6, gardens.count(11));
        for (int left = 5; left >= 0; left--) {
            check.due("undo", left, gardens.undo());
            check.due("walls", left + 1, gardens.count(4));
        }
        check.refuses("undo of a dropped state", NO_STATE, gardens, () -> gardens.undo());
    }

    void termUndoSavesNothing() {
        BentGardens gardens = new BentGardens();
        gardens.wall(1, 1);
        gardens.wall(2, 1);
        gardens.undo();
        gardens.undo();
        check.due("saved states", 0, gardens.count(11));
        check.due("walls", 0, gardens.count(4));
    }

    void termUndoOtherCallsSaveNothing() {
        BentGardens gardens = new BentGardens();
        gardens.append('o');
        gardens.firstError();
        gardens.clearBuffer();
        gardens.keep(1);
        gardens.cell(0, 0, 0);
        gardens.row(0, 0);
        gardens.whyNot(0, 0, 0);
        gardens.ways();
        gardens.waysWith(0, 0, 0);
        gardens.forced(0);
        gardens.lonely();
        gardens.bestPond();
        gardens.pavedShare();
        gardens.digest();
        check.due("saved states", 0, gardens.count(11));
    }

    // ---- exceptions

    /** The pond, a triple over (2, 0), (3, 0) and (3, 1), and walls from (0, 2) on; so many states are saved. */
    private static BentGardens ready(int states) {
        BentGardens gardens = new BentGardens();
        gardens.keep(0);
        gardens.append('.');
        gardens.lay(2, 0, 3);
        for (int walls = 0; walls < states - 1; walls++) {
            gardens.wall(walls % 4, 2 + walls / 4);
        }
        return gardens;
    }

    /** The call throws, saves no state, drops none of six, and leaves the slots as they are. */
    private void thrown(Class<?> kind, Consumer<BentGardens> call) {
        for (int states = 2; states <= 6; states += 4) {
            BentGardens gardens = ready(states);
            check.refuses("with " + states + " saved states", kind, gardens, () -> {
                call.accept(gardens);
                return 0;
            });
            for (int left = states - 1; left >= 0; left--) {
                check.due("undo", left, gardens.undo());
                check.due("walls", Math.max(0, left - 1), gardens.count(4));
            }
            check.due("the triple is not yet laid", 0, gardens.count(5));
            gardens.pond(3, 3);
            check.refuses("the empty slot", NO_STATE, gardens, () -> gardens.goBack(1));
            gardens.goBack(0);
            check.dueText("the snapshot", "o.../..../..../....", Told.cells(gardens));
            check.due("the buffer", 1, gardens.clearBuffer());
        }
    }

    void termExceptionsGarden() {
        thrown(NO_ARGUMENT, gardens -> gardens.garden(1, 4));
        thrown(NO_ARGUMENT, gardens -> gardens.garden(4, 9));
    }

    void termExceptionsPond() {
        thrown(NO_CELL, gardens -> gardens.pond(4, 0));
        thrown(NO_CELL, gardens -> gardens.pond(0, -1));
        thrown(NO_STATE, gardens -> gardens.pond(0, 2));
        thrown(NO_STATE, gardens -> gardens.pond(3, 1));
    }

    void termExceptionsWall() {
        thrown(NO_CELL, gardens -> gardens.wall(0, 4));
        thrown(NO_CELL, gardens -> gardens.wall(-1, 0));
        thrown(NO_STATE, gardens -> gardens.wall(0, 0));
        thrown(NO_STATE, gardens -> gardens.wall(3, 1));
    }

    void termExceptionsLay() {
        thrown(NO_ARGUMENT, gardens -> gardens.lay(1, 0, 4));
        thrown(NO_ARGUMENT, gardens -> gardens.lay(9, 9, -1));
    }

    void termExceptionsLift() {
        thrown(NO_CELL, gardens -> gardens.lift(4, 4));
        thrown(NO_STATE, gardens -> gardens.lift(1, 1));
        thrown(NO_STATE, gardens -> gardens.lift(0, 0));
        thrown(NO_STATE, gardens -> gardens.lift(0, 2));
    }

    void termExceptionsFlip() {
        thrown(NO_CELL, gardens -> gardens.flip(3, 0, true));
        thrown(NO_CELL, gardens -> gardens.flip(2, 0, false));
        thrown(NO_STATE, gardens -> gardens.flip(2, 0, true));
        thrown(NO_STATE, gardens -> gardens.flip(1, 0, false));
    }

    void termExceptionsFillAndHalve() {
        thrown(NO_STATE, gardens -> gardens.fill());
        thrown(NO_STATE, gardens -> gardens.halve());
    }

    void termExceptionsAppendAndLoad() {
        thrown(NO_ARGUMENT, gardens -> gardens.append(32));
        thrown(NO_ARGUMENT, gardens -> gardens.load());
    }

    void termExceptionsKeepAndGoBack() {
        thrown(NO_ARGUMENT, gardens -> gardens.keep(2));
        thrown(NO_ARGUMENT, gardens -> gardens.goBack(-1));
        thrown(NO_STATE, gardens -> gardens.goBack(1));
    }

    void termExceptionsUndo() {
        BentGardens gardens = ready(1);
        gardens.undo();
        check.refuses("undo", NO_STATE, gardens, () -> gardens.undo());
    }

    void termExceptionsLooks() {
        thrown(NO_CELL, gardens -> gardens.cell(4, 0, 0));
        thrown(NO_ARGUMENT, gardens -> gardens.cell(0, 0, 3));
        thrown(NO_CELL, gardens -> gardens.triple(1, 0));
        thrown(NO_ARGUMENT, gardens -> gardens.triple(0, 3));
        thrown(NO_CELL, gardens -> gardens.row(4, 0));
        thrown(NO_ARGUMENT, gardens -> gardens.row(0, 3));
        thrown(NO_ARGUMENT, gardens -> gardens.count(12));
    }

    void termExceptionsWhatWouldBe() {
        thrown(NO_ARGUMENT, gardens -> gardens.whyNot(1, 0, 4));
        thrown(NO_ARGUMENT, gardens -> gardens.waysWith(1, 0, 4));
        thrown(NO_ARGUMENT, gardens -> gardens.forced(2));
    }

    void termExceptionsFirstNamedOfTheLooks() {
        thrown(NO_CELL, gardens -> gardens.cell(-1, 0, -1));
        thrown(NO_CELL, gardens -> gardens.cell(0, 4, 3));
        thrown(NO_CELL, gardens -> gardens.triple(-1, -1));
        thrown(NO_CELL, gardens -> gardens.triple(1, 3));
        thrown(NO_CELL, gardens -> gardens.row(-1, -1));
        thrown(NO_CELL, gardens -> gardens.row(4, 3));
    }

    void termExceptionsFirstNamedOfAppend() {
        BentGardens gardens = withBuffer("o".repeat(71));
        check.refuses("append(127) to a full buffer", NO_ARGUMENT, gardens, () -> gardens.append(127));
    }

    void termExceptionsFirstNamedOfGoBack() {
        BentGardens gardens = new BentGardens();
        check.refuses("goBack(2) without snapshots", NO_ARGUMENT, gardens, () -> gardens.goBack(2));
        check.refuses("goBack(-1) without snapshots", NO_ARGUMENT, gardens, () -> gardens.goBack(-1));
    }

    void termExceptionsFirstNamedOfFlip() {
        BentGardens gardens = new BentGardens();
        check.refuses("beyond, and nothing to flip", NO_CELL, gardens, () -> gardens.flip(3, 3, true));
        check.refuses("beyond, and nothing to flip", NO_CELL, gardens, () -> gardens.flip(3, 3, false));
    }
}
