/** Reads a garden off an object, and makes one, in forms that are easy to write down in a test. */
final class Told {
    private Told() {
    }

    static void append(BentGardens gardens, String text) {
        for (int index = 0; index < text.length(); index++) {
            gardens.append(text.charAt(index));
        }
    }

    static BentGardens gardenOf(String text) {
        BentGardens gardens = new BentGardens();
        append(gardens, text);
        gardens.load();
        return gardens;
    }

    /** The rows as a text: as for load(), with a letter for each triple, from a on. */
    static String cells(BentGardens gardens) {
        StringBuilder text = new StringBuilder();
        for (int y = 0; y < gardens.count(1); y++) {
            text.append(y == 0 ? "" : "/");
            for (int x = 0; x < gardens.count(0); x++) {
                text.append(sign(gardens, x, y));
            }
        }
        return text.toString();
    }

    private static char sign(BentGardens gardens, int x, int y) {
        int kind = gardens.cell(x, y, 0);
        return kind == 3 ? (char) ('a' + gardens.cell(x, y, 1)) : ".o#".charAt(kind);
    }

    /** The triples in order, each as its column, row and turn. */
    static String triples(BentGardens gardens) {
        StringBuilder text = new StringBuilder();
        for (int number = 0; number < gardens.count(5); number++) {
            text.append(number == 0 ? "" : " ");
            for (int what = 0; what < 3; what++) {
                text.append(gardens.triple(number, what));
            }
        }
        return text.toString();
    }
}
