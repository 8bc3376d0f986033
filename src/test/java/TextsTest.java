import java.util.Arrays;

/** Promises 10 to 13: append, clearBuffer, firstError, load. */
public final class TextsTest {
    private final Check check = new Check();

    public static void main(String[] args) {
        TextsTest test = new TextsTest();
        test.append();
        test.clearBuffer();
        test.firstErrors();
        test.greatTexts();
        test.load();
        test.loadRefused();
        test.check.end();
    }

    private void append() {
        BentGardens gardens = new BentGardens();
        int[] wrong = {32, 127, 0, -1, Integer.MAX_VALUE, Integer.MIN_VALUE, '.' + 65536};
        for (int code : wrong) {
            check.refuses("append " + code, IllegalArgumentException.class, gardens, () -> gardens.append(code));
        }
        check.due("append 33", 1, gardens.append(33));
        check.due("append 126", 2, gardens.append(126));
        for (int length = 3; length <= 71; length++) {
            check.due("append", length, gardens.append('.'));
        }
        check.refuses("append to 71", IllegalStateException.class, gardens, () -> gardens.append('.'));
        check.refuses("append 32 to 71", IllegalArgumentException.class, gardens, () -> gardens.append(32));
        check.due("append saves no state", 0, gardens.count(11));
    }

    private void clearBuffer() {
        BentGardens gardens = new BentGardens();
        check.due("clear of nothing", 0, gardens.clearBuffer());
        Told.append(gardens, "../o.");
        check.due("clear of five", 5, gardens.clearBuffer());
        check.due("clear again", 0, gardens.clearBuffer());
        check.due("clear saves no state", 0, gardens.count(11));
        check.due("append after a clear", 1, gardens.append('o'));
    }

    private void error(String text, int due) {
        BentGardens gardens = new BentGardens();
        Told.append(gardens, text);
        long before = gardens.digest();
        check.due("firstError of " + text, due, gardens.firstError());
        check.due("firstError changes nothing", before, gardens.digest());
    }

    private void firstErrors() {
        error("", 0);
        error("o", 1);
        error("O", 0);
        error("0.", 0);
        error("/", 0);
        error("./", 1);
        error(".o/", 3);
        error(".o//", 3);
        error(".o/#.", 5);
        error(".o/#../", 5);
        error(".o/./", 4);
        error(".o/.o", 4);
        error("oo/..", 1);
        error("../../..", 8);
        error("........", 8);
        error(".........", 8);
        error("......../", 9);
        error("#-/..", 1);
    }

    private static String rows(int count, String row) {
        StringBuilder text = new StringBuilder(row);
        for (int y = 1; y < count; y++) {
            text.append('/').append(row);
        }
        return text.toString();
    }

    private void greatTexts() {
        error(rows(8, "...").substring(0, 30), 30);
        error(rows(8, "..."), 30);
        error(rows(8, "###"), 30);
        error(rows(7, "...") + "/..o", 31);
        error(rows(7, "...") + "/..o/", 31);
        error("o../" + rows(7, "..."), 31);
        error("o../" + rows(7, "...") + ".", 31);
        error(rows(7, "...") + "/...", 30);
        error(rows(7, ".."), 20);
        error(rows(8, "........"), 70);
        error("o......./" + rows(7, "........"), 71);
    }

    private void load() {
        BentGardens gardens = new BentGardens();
        gardens.lay(0, 0, 0);
        gardens.lay(0, 0, 0);
        Told.append(gardens, "#.o/..#");
        check.due("load", 3, gardens.load());
        check.dueText("loaded", "#.o/..#", Told.cells(gardens));
        int[] counts = {3, 2, 2, 0, 2, 0, 3, 1, 0, 0, 1, 3};
        int[] told = new int[12];
        for (int what = 0; what < 12; what++) {
            told[what] = gardens.count(what);
        }
        check.dueText("counts", Arrays.toString(counts), Arrays.toString(told));
        check.due("load clears the buffer", 0, gardens.clearBuffer());
        gardens.undo();
        check.dueText("undone", "oa../aa../..../....", Told.cells(gardens));
        check.due("undo brings no buffer back", 0, gardens.clearBuffer());
        Told.append(gardens, rows(7, "#.#.#.#.") + "/#######o");
        check.due("load 8 by 8", 28, gardens.load());
        check.dueText("8 by 8", rows(7, "#.#.#.#.") + "/#######o", Told.cells(gardens));
        Told.append(gardens, "##/#o");
        check.due("load all walls", 0, gardens.load());
    }

    private void loadRefused() {
        String[] wrong = {"", "o.", "o./", "o./.", "../..", ".o/.o", "o./.../", "o./..x", ".o/../", "o", "o/.", "o/.",
            rows(8, ".."), "........o/........."};
        for (String text : wrong) {
            BentGardens gardens = new BentGardens();
            gardens.wall(1, 1);
            Told.append(gardens, text);
            check.refuses("load of " + text, IllegalArgumentException.class, gardens, () -> gardens.load());
            check.due("the buffer stays", text.length(), gardens.clearBuffer());
        }
    }
}
