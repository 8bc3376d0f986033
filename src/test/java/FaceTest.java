import java.io.IOException;
import java.lang.reflect.Modifier;
import java.nio.file.Files;
import java.nio.file.Path;
import java.util.List;
import java.util.TreeSet;

/** The public face: each row of it in the document stands in the class, and nothing else can be seen of it. */
public final class FaceTest {
    private static final int MEMBERS = 29;

    private final Check check = new Check();

    public static void main(String[] args) throws IOException {
        FaceTest test = new FaceTest();
        test.eachRowStands();
        test.nothingElseIsSeen();
        test.check.end();
    }

    private void eachRowStands() throws IOException {
        List<String> source = Files.readAllLines(Path.of("src/main/java/BentGardens.java"));
        List<String> document = Files.readAllLines(Path.of("../shared/DOC.md"));
        int begin = document.indexOf("public final class BentGardens {");
        int members = 0;
        for (int index = begin; index >= 0 && !document.get(index).equals("}"); index++) {
            String row = document.get(index);
            boolean isBody = row.endsWith(");") || row.contains(" throws ");
            String due = isBody ? row.substring(0, row.length() - 1) + " {" : row;
            check.due(due, 1, source.contains(due) ? 1 : 0);
            members += row.endsWith(";") ? 1 : 0;
        }
        check.due("the members that the document tells", MEMBERS, members);
    }

    private void nothingElseIsSeen() {
        TreeSet<String> seen = new TreeSet<>();
        int count = 0;
        for (var method : BentGardens.class.getDeclaredMethods()) {
            count += isSeen(method.getModifiers()) ? 1 : 0;
            String name = method.getName();
            boolean isNew = isSeen(method.getModifiers()) || !isFaceName(name);
            check.due("no private method is named " + name, 1, isNew ? 1 : 0);
        }
        for (var field : BentGardens.class.getDeclaredFields()) {
            if (isSeen(field.getModifiers())) {
                seen.add(field.getName());
            }
        }
        check.dueText("the fields that are seen", "[NONE]", seen.toString());
        check.due("methods, the constant and the constructor", MEMBERS,
            count + seen.size() + BentGardens.class.getDeclaredConstructors().length);
        check.due("the class is final", 1, Modifier.isFinal(BentGardens.class.getModifiers()) ? 1 : 0);
    }

    private static boolean isFaceName(String name) {
        for (var method : BentGardens.class.getMethods()) {
            if (method.getName().equals(name)) {
                return true;
            }
        }
        return false;
    }

    private static boolean isSeen(int modifiers) {
        return !Modifier.isPrivate(modifiers);
    }
}
