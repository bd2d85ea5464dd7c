import java.lang.reflect.Constructor;
import java.lang.reflect.Field;
import java.lang.reflect.Method;
import java.lang.reflect.Modifier;
import java.nio.file.Files;
import java.nio.file.Path;
import java.util.Set;
import java.util.TreeSet;
import java.util.regex.Matcher;
import java.util.regex.Pattern;

/** The public face: just the members that the document shows, and no others but private ones. */
public final class FaceTest {
    private static final String[] METHODS = {
        "append 1", "bestOrder 1", "chain 3", "clearText 0", "contract 4", "count 1", "cut 2", "doneIn 1", "field 2",
        "giveBack 1", "grub 2", "lay 3", "pass 1", "payDebt 0", "plant 2", "read 1", "restore 1", "set 2",
        "stakesIn 1", "take 1", "toLay 2", "undo 0"};

    private static final String[] CONSTANTS = {"INVALID_ARGUMENT -1", "ILLEGAL_STATE -2", "CAPACITY_EXCEEDED -3", "NONE -9"};
    private static final Path DOCUMENT = Path.of("../shared/DOC.md");

    public static void main(String[] args) throws Exception {
        Check check = new Check("FaceTest");
        if (Files.isReadable(DOCUMENT)) {
            document(check, Files.readString(DOCUMENT));
        } else {
            System.out.println("FaceTest: " + DOCUMENT + " is not here, so that no face is compared with it");
        }
        check.due("the class is public and final", HedgeChains.class.getModifiers(), Modifier.PUBLIC | Modifier.FINAL);
        constants(check);
        constructors(check);
        methods(check);
        check.end();
    }

    private static void document(Check check, String document) {
        String face = document.substring(document.indexOf("```java"), document.lastIndexOf("```"));
        Set<String> methods = new TreeSet<>();
        Set<String> constants = new TreeSet<>();
        Matcher method = Pattern.compile("public int (\\w+)\\(([^)]*)\\);").matcher(face);
        while (method.find()) {
            methods.add(method.group(1) + " " + (method.group(2).isEmpty() ? 0 : method.group(2).split(",").length));
        }
        Matcher constant = Pattern.compile("public static final int (\\w+) = (-?\\d+);").matcher(face);
        while (constant.find()) {
            constants.add(constant.group(1) + " " + constant.group(2));
        }
        check.same("the methods of the document", methods.toString(), new TreeSet<>(Set.of(METHODS)).toString());
        check.same("the constants of the document", constants.toString(), new TreeSet<>(Set.of(CONSTANTS)).toString());
    }

    private static void constants(Check check) throws Exception {
        for (String each : CONSTANTS) {
            String[] words = each.split(" ");
            Field constant = HedgeChains.class.getField(words[0]);
            check.due(words[0], constant.getInt(null), Integer.parseInt(words[1]));
            check.due(words[0] + " modifiers", constant.getModifiers(),
                    Modifier.PUBLIC | Modifier.STATIC | Modifier.FINAL);
        }
        int open = 0;
        for (Field any : HedgeChains.class.getDeclaredFields()) {
            if (Modifier.isStatic(any.getModifiers())) {
                check.due(any.getName() + " is final", any.getModifiers() & Modifier.FINAL, Modifier.FINAL);
            }
            open += Modifier.isPrivate(any.getModifiers()) ? 0 : 1;
        }
        check.due("fields that are not private", open, CONSTANTS.length);
    }

    private static void constructors(Check check) {
        Constructor<?>[] all = HedgeChains.class.getDeclaredConstructors();
        check.due("constructors", all.length, 1);
        check.due("constructor modifiers", all[0].getModifiers(), Modifier.PUBLIC);
        check.due("constructor parameters", all[0].getParameterCount(), 0);
    }

    private static void methods(Check check) {
        Set<String> due = new TreeSet<>(Set.of(METHODS));
        Set<String> open = new TreeSet<>();
        for (Method method : HedgeChains.class.getDeclaredMethods()) {
            if (!Modifier.isPrivate(method.getModifiers())) {
                open.add(method.getName() + " " + method.getParameterCount());
                check.due(method.getName() + " modifiers", method.getModifiers(), Modifier.PUBLIC);
                check.due(method.getName() + " answers an int", method.getReturnType() == int.class ? 1 : 0, 1);
                for (Class<?> parameter : method.getParameterTypes()) {
                    check.due(method.getName() + " takes ints", parameter == int.class ? 1 : 0, 1);
                }
            }
        }
        check.due("methods " + open, open.equals(due) ? 1 : 0, 1);
    }
}
