/** Promises 10 to 13: append, clearBuffer, firstError, load. */
public final class TextsTest extends Cases {
    public static void main(String[] args) {
        new TextsTest().run();
    }

    private static BentGardens withBuffer(String text) {
        BentGardens gardens = new BentGardens();
        Told.append(gardens, text);
        return gardens;
    }

    // ---- promise 10: append

    void promise10ReturnsTheNewLength() {
        BentGardens gardens = new BentGardens();
        for (int length = 1; length <= 71; length++) {
            check.due("append", length, gardens.append('.'));
        }
    }

    void promise10CodeIs33() {
        BentGardens gardens = new BentGardens();
        check.due("append(33)", 1, gardens.append(33));
        check.refuses("append(32)", NO_ARGUMENT, gardens, () -> gardens.append(32));
    }

    void promise10CodeIs126() {
        BentGardens gardens = new BentGardens();
        check.due("append(126)", 1, gardens.append(126));
        check.refuses("append(127)", NO_ARGUMENT, gardens, () -> gardens.append(127));
    }

    void promise10EachCodeInRange() {
        BentGardens gardens = new BentGardens();
        for (int code = 33; code <= 126; code++) {
            check.due("append(" + code + ")", 1, gardens.append(code));
            gardens.clearBuffer();
        }
    }

    void promise10CodeFarOutOfRange() {
        BentGardens gardens = new BentGardens();
        int[] wrong = {0, -1, -46, 128, 46 + 256, 46 + 65536, Integer.MAX_VALUE, Integer.MIN_VALUE};
        for (int code : wrong) {
            check.refuses("append(" + code + ")", NO_ARGUMENT, gardens, () -> gardens.append(code));
        }
    }

    void promise10BufferIsFull() {
        BentGardens gardens = withBuffer(".".repeat(71));
        check.refuses("append to 71 characters", NO_STATE, gardens, () -> gardens.append('.'));
        check.due("the length stays", 71, gardens.clearBuffer());
        check.due("append after a clear", 1, gardens.append('.'));
    }

    void promise10BadCodeToAFullBuffer() {
        BentGardens gardens = withBuffer(".".repeat(71));
        check.refuses("append(32) to 71 characters", NO_ARGUMENT, gardens, () -> gardens.append(32));
        check.refuses("append(127) to 71 characters", NO_ARGUMENT, gardens, () -> gardens.append(127));
    }

    void promise10NotUndoable() {
        BentGardens gardens = withBuffer("o");
        check.due("saved states", 0, gardens.count(11));
    }

    // ---- promise 11: clearBuffer

    void promise11ReturnsTheLengthThatItHad() {
        BentGardens gardens = withBuffer("../o.");
        check.due("clearBuffer", 5, gardens.clearBuffer());
    }

    void promise11EmptyBuffer() {
        BentGardens gardens = new BentGardens();
        check.due("clearBuffer", 0, gardens.clearBuffer());
        gardens.append('o');
        gardens.clearBuffer();
        check.due("clearBuffer again", 0, gardens.clearBuffer());
    }

    void promise11FullBuffer() {
        BentGardens gardens = withBuffer("#".repeat(71));
        check.due("clearBuffer", 71, gardens.clearBuffer());
        check.due("firstError", 0, gardens.firstError());
    }

    void promise11WhatFollowsBeginsAnew() {
        BentGardens gardens = withBuffer("o#x");
        gardens.clearBuffer();
        Told.append(gardens, "../.o");
        check.due("firstError", 5, gardens.firstError());
        check.due("load", 3, gardens.load());
    }

    void promise11NotUndoable() {
        BentGardens gardens = withBuffer("o");
        gardens.clearBuffer();
        check.due("saved states", 0, gardens.count(11));
    }

    // ---- promise 12: firstError

    private void error(String text, int due) {
        BentGardens gardens = withBuffer(text);
        String before = Told.all(gardens);
        check.due("firstError of " + text, due, gardens.firstError());
        check.dueText("firstError changes nothing", before, Told.all(gardens));
    }

    void promise12NoError() {
        error(".o/..", 5);
        error("o#/#./..", 8);
        error(".", 1);
    }

    void promise12EmptyBuffer() {
        error("", 0);
    }

    void promise12FirstCharacter() {
        error("x", 0);
        error("/", 0);
        error("/x", 0);
    }

    void promise12LastCharacter() {
        error(".o/.x", 4);
        error(".o/..x", 5);
    }

    void promise12FirstOfSeveral() {
        error(".x/.y", 1);
        error("oo/oo", 1);
        error(".o/./x", 4);
    }

    void promise12LongestText() {
        error("o......./" + Told.rows(7, "........"), 71);
        error(Told.rows(7, "........") + "/.......o", 71);
        error(Told.rows(8, "........"), 70);
    }

    // ---- promise 13: load

    void promise13ReturnsItsFreeCells() {
        check.due("load", 3, withBuffer("#.o/..#").load());
        check.due("load", 3, withBuffer(".o/..").load());
        check.due("load", 1, withBuffer("##/.o").load());
    }

    void promise13LaysItOut() {
        BentGardens gardens = withBuffer("#.o/..#");
        gardens.load();
        check.dueText("cells", "#.o/..#", Told.cells(gardens));
        check.dueText("counts", "3 2 2 0 2 0 3 1 0 0 0 1", Told.counts(gardens));
    }

    void promise13NoFreeCell() {
        BentGardens gardens = withBuffer("##/#o");
        check.due("load", 0, gardens.load());
        check.dueText("cells", "##/#o", Told.cells(gardens));
    }

    void promise13LongestText() {
        String text = Told.rows(7, "#.#.#.#.") + "/#######o";
        BentGardens gardens = withBuffer(text);
        check.due("load", 28, gardens.load());
        check.dueText("cells", text, Told.cells(gardens));
        check.due("free cells", 63, loaded(Told.rows(7, "........") + "/.......o").count(6));
    }

    private static BentGardens loaded(String text) {
        BentGardens gardens = withBuffer(text);
        gardens.load();
        return gardens;
    }

    void promise13WithoutTriples() {
        BentGardens gardens = new BentGardens();
        gardens.fill();
        Told.append(gardens, "o.../..../..../....");
        check.due("load", 15, gardens.load());
        check.dueText("triples", "", Told.triples(gardens));
    }

    void promise13CountsGoOn() {
        BentGardens gardens = loaded("...o/...#");
        gardens.lay(0, 0, 2);
        gardens.lay(1, 0, 0);
        gardens.lay(1, 0, 0);
        gardens.flip(0, 0, false);
        Told.append(gardens, "o./..");
        gardens.load();
        check.dueText("counts", "2 2 0 0 0 0 3 1 0 1 1 6", Told.counts(gardens));
    }

    void promise13ClearsTheBuffer() {
        BentGardens gardens = loaded(".o/..");
        check.due("clearBuffer", 0, gardens.clearBuffer());
        check.refuses("load again", NO_ARGUMENT, gardens, () -> gardens.load());
    }

    void promise13NoGardenAsAText() {
        String[] wrong = {"x", "o", "o.", "o./", "o./.", "o./..x", "o./../", "../..", ".o/.o", "o./...", "o../..",
            ".../...", "o./#x", "oo/##", "o.,..", "O./.."};
        for (String text : wrong) {
            BentGardens gardens = withBuffer(text);
            check.refuses("load of " + text, NO_ARGUMENT, gardens, () -> gardens.load());
            check.due("the buffer stays", text.length(), gardens.clearBuffer());
        }
    }

    void promise13EmptyBuffer() {
        BentGardens gardens = new BentGardens();
        check.refuses("load", NO_ARGUMENT, gardens, () -> gardens.load());
    }

    void promise13UndoableButNotTheBuffer() {
        BentGardens gardens = new BentGardens();
        gardens.wall(1, 2);
        Told.append(gardens, "o./..");
        gardens.load();
        check.due("undo", 1, gardens.undo());
        check.dueText("cells before", "o.../..../.#../....", Told.cells(gardens));
        check.due("the buffer stays cleared", 0, gardens.clearBuffer());
    }
}
