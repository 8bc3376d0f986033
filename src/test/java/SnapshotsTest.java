import java.util.function.Consumer;

/** Promises 14 to 16: keep, goBack, undo. */
public final class SnapshotsTest {
    private final Check check = new Check();

    public static void main(String[] args) {
        SnapshotsTest test = new SnapshotsTest();
        test.keep();
        test.goBack();
        test.snapshotsStayApart();
        test.undo();
        test.sixStates();
        test.eachUndoableCall();
        test.callsThatSaveNothing();
        test.callsThatThrowSaveNothing();
        test.check.end();
    }

    private void keep() {
        BentGardens gardens = new BentGardens();
        check.due("keep(0)", 0, gardens.keep(0));
        gardens.fill();
        check.due("keep(1)", 5, gardens.keep(1));
        check.due("keep saves no state", 1, gardens.count(11));
        int[] wrong = {-1, 2, Integer.MAX_VALUE, Integer.MIN_VALUE};
        for (int slot : wrong) {
            check.refuses("keep " + slot, IllegalArgumentException.class, gardens, () -> gardens.keep(slot));
            check.refuses("goBack " + slot, IllegalArgumentException.class, gardens, () -> gardens.goBack(slot));
        }
        check.due("keep in place of another", 5, gardens.keep(0));
        gardens.garden(2, 2);
        check.due("goBack to the new one", 5, gardens.goBack(0));
    }

    private void goBack() {
        BentGardens gardens = Told.gardenOf("o.#/.../...");
        gardens.lay(1, 1, 0);
        gardens.lay(1, 1, 0);
        gardens.keep(1);
        check.refuses("goBack to the empty slot", IllegalStateException.class, gardens, () -> gardens.goBack(0));
        gardens.lay(9, 9, 0);
        gardens.lift(2, 2);
        gardens.garden(5, 2);
        gardens.append('o');
        check.due("goBack(1)", 1, gardens.goBack(1));
        check.dueText("the garden is back", "o.#/..a/.aa", Told.cells(gardens));
        check.due("what was refused is back", 1, gardens.count(10));
        check.due("goBack saves a state", 6, gardens.count(11));
        check.due("the buffer stays", 1, gardens.clearBuffer());
        gardens.undo();
        check.dueText("goBack undone", "o..../.....", Told.cells(gardens));
        check.due("what was refused before goBack", 2, gardens.count(10));
        check.due("the snapshot stays", 1, gardens.goBack(1));
    }

    private void snapshotsStayApart() {
        BentGardens gardens = new BentGardens();
        gardens.lay(0, 0, 0);
        gardens.lay(2, 0, 1);
        gardens.lay(2, 2, 2);
        gardens.keep(0);
        gardens.lift(1, 0);
        gardens.wall(0, 3);
        gardens.pond(1, 0);
        gardens.goBack(0);
        check.dueText("the snapshot is as it was", "oab./aabb/..cc/..c.", Told.cells(gardens));
        gardens.lift(1, 0);
        gardens.goBack(0);
        check.dueText("the snapshot stays as it was", "oab./aabb/..cc/..c.", Told.cells(gardens));
    }

    private void undo() {
        BentGardens gardens = new BentGardens();
        gardens.lay(0, 0, 0);
        gardens.lay(0, 0, 0);
        gardens.keep(0);
        gardens.append('.');
        gardens.wall(3, 3);
        check.due("undo of wall", 2, gardens.undo());
        check.dueText("no wall", "oa../aa../..../....", Told.cells(gardens));
        check.due("undo of a refused lay", 1, gardens.undo());
        check.due("nothing was refused", 0, gardens.count(10));
        check.due("undo of lay", 0, gardens.undo());
        check.dueText("as it began", "o.../..../..../....", Told.cells(gardens));
        check.refuses("undo of nothing", IllegalStateException.class, gardens, () -> gardens.undo());
        check.due("the buffer stays", 1, gardens.clearBuffer());
        check.due("the snapshot stays", 1, gardens.goBack(0));
    }

    private void sixStates() {
        BentGardens gardens = new BentGardens();
        for (int x = 1; x <= 8; x++) {
            gardens.garden(2, 2);
            gardens.pond(x % 2, x / 2 % 2);
            check.due("saved states", Math.min(6, 2 * x), gardens.count(11));
        }
        for (int left = 5; left >= 0; left--) {
            check.due("undo", left, gardens.undo());
        }
        check.dueText("the state before the last six calls", ".o/..", Told.cells(gardens));
        check.refuses("undo of a dropped state", IllegalStateException.class, gardens, () -> gardens.undo());
    }

    /** Two ways are left in it; a snapshot without the triple is in the slot 0. */
    private static BentGardens started() {
        BentGardens gardens = Told.gardenOf("o##/.../...");
        gardens.keep(0);
        gardens.lay(0, 1, 1);
        gardens.lay(0, 1, 1);
        return gardens;
    }

    private void eachUndoableCall() {
        undone("garden", started(), gardens -> gardens.garden(3, 3));
        undone("pond", started(), gardens -> gardens.pond(2, 2));
        undone("pond where it is", started(), gardens -> gardens.pond(0, 0));
        undone("wall", started(), gardens -> gardens.wall(2, 2));
        undone("wall away", started(), gardens -> gardens.wall(2, 0));
        undone("lay", started(), gardens -> gardens.lay(1, 1, 3));
        undone("lay refused", started(), gardens -> gardens.lay(1, 1, 2));
        undone("lift", started(), gardens -> gardens.lift(0, 1));
        undone("fill", started(), gardens -> gardens.fill());
        undone("goBack", started(), gardens -> gardens.goBack(0));
        undone("halve", new BentGardens(), gardens -> gardens.halve());
        BentGardens paved = started();
        paved.fill();
        undone("fill of nothing", paved, gardens -> gardens.fill());
        undone("flip", paved, gardens -> gardens.flip(0, 1, false));
        undone("load", started(), gardens -> {
            Told.append(gardens, "o#/..");
            gardens.load();
        });
    }

    private void undone(String call, BentGardens gardens, Consumer<BentGardens> body) {
        long before = gardens.digest();
        int states = gardens.count(11);
        body.accept(gardens);
        check.due(call + " saves a state", states + 1, gardens.count(11));
        check.due(call + " undone", states, gardens.undo());
        check.due(call + " undone: digest", before, gardens.digest());
    }

    private void callsThatSaveNothing() {
        BentGardens gardens = new BentGardens();
        gardens.append('o');
        gardens.firstError();
        gardens.clearBuffer();
        gardens.keep(1);
        gardens.cell(0, 0, 0);
        gardens.row(0, 0);
        gardens.whyNot(0, 0, 0);
        gardens.ways();
        gardens.waysWith(0, 0, 0);
        gardens.forced(0);
        gardens.lonely();
        gardens.bestPond();
        gardens.pavedShare();
        gardens.digest();
        check.due("no state is saved", 0, gardens.count(11));
    }

    private void callsThatThrowSaveNothing() {
        saveless("garden", gardens -> gardens.garden(1, 4));
        saveless("pond off", gardens -> gardens.pond(4, 0));
        saveless("wall off", gardens -> gardens.wall(0, 4));
        saveless("wall on the pond", gardens -> gardens.wall(0, 0));
        saveless("lay", gardens -> gardens.lay(0, 0, 4));
        saveless("lift off", gardens -> gardens.lift(-1, 0));
        saveless("lift of nothing", gardens -> gardens.lift(1, 1));
        saveless("flip off", gardens -> gardens.flip(3, 0, true));
        saveless("flip of nothing", gardens -> gardens.flip(0, 0, true));
        saveless("load", gardens -> gardens.load());
        saveless("goBack to no slot", gardens -> gardens.goBack(2));
        saveless("goBack to an empty slot", gardens -> gardens.goBack(1));
    }

    private void saveless(String call, Consumer<BentGardens> body) {
        BentGardens gardens = new BentGardens();
        String outcome = Check.outcome(() -> {
            body.accept(gardens);
            return 0;
        });
        check.due(call + " throws", 1, outcome.endsWith("Exception") ? 1 : 0);
        check.due(call + " saves no state", 0, gardens.count(11));
    }
}
