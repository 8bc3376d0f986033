import java.util.function.IntUnaryOperator;

/** Reads a garden off an object, and makes one, in forms that are easy to write down in a test. */
final class Told {
    private Told() {
    }

    static void append(BentGardens gardens, String text) {
        for (int index = 0; index < text.length(); index++) {
            gardens.append(text.charAt(index));
        }
    }

    static BentGardens gardenOf(String text) {
        BentGardens gardens = new BentGardens();
        append(gardens, text);
        gardens.load();
        return gardens;
    }

    static BentGardens gardenOf(int wide, int high, int pondX, int pondY) {
        BentGardens gardens = new BentGardens();
        gardens.garden(wide, high);
        gardens.pond(pondX, pondY);
        return gardens;
    }

    /** A row several times, with a slash between each two. */
    static String rows(int count, String row) {
        StringBuilder text = new StringBuilder(row);
        for (int y = 1; y < count; y++) {
            text.append('/').append(row);
        }
        return text.toString();
    }

    /** The rows as a text: as for load(), with a letter for each triple, from a on. */
    static String cells(BentGardens gardens) {
        StringBuilder text = new StringBuilder();
        for (int y = 0; y < gardens.count(1); y++) {
            text.append(y == 0 ? "" : "/");
            for (int x = 0; x < gardens.count(0); x++) {
                text.append(sign(gardens, x, y));
            }
        }
        return text.toString();
    }

    private static char sign(BentGardens gardens, int x, int y) {
        int kind = gardens.cell(x, y, 0);
        return kind == 3 ? (char) ('a' + gardens.cell(x, y, 1)) : ".o#".charAt(kind);
    }

    /** The triples in order, each as its column, row and turn. */
    static String triples(BentGardens gardens) {
        StringBuilder text = new StringBuilder();
        for (int number = 0; number < gardens.count(5); number++) {
            text.append(number == 0 ? "" : " ");
            for (int what = 0; what < 3; what++) {
                text.append(gardens.triple(number, what));
            }
        }
        return text.toString();
    }

    /** Some answers with blanks between them. */
    static String answers(int many, IntUnaryOperator answer) {
        StringBuilder text = new StringBuilder();
        for (int index = 0; index < many; index++) {
            text.append(index == 0 ? "" : " ").append(answer.applyAsInt(index));
        }
        return text.toString();
    }

    static String counts(BentGardens gardens) {
        return answers(12, what -> gardens.count(what));
    }

    /** All that can be looked at. */
    static String all(BentGardens gardens) {
        return cells(gardens) + " " + triples(gardens) + " | " + counts(gardens) + " | " + gardens.digest();
    }
}
