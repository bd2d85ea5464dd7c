import java.lang.reflect.Method;
import java.nio.file.Files;
import java.nio.file.Path;
import java.util.ArrayList;
import java.util.List;
import java.util.regex.Matcher;
import java.util.regex.Pattern;

/** That README.md says of the class what the document says, and that its example answers as it says. */
public final class ReadmeTest {
    private static final Path DOCUMENT = Path.of("../shared/DOC.md");
    private static final Pattern CALL = Pattern.compile("hedges\\.(\\w+)\\(([^)]*|'\\)')\\);\\s*// answers (-?\\d+)");

    public static void main(String[] args) throws Exception {
        Check check = new Check("ReadmeTest");
        String readme = Files.readString(Path.of("README.md"));
        example(check, readme);
        constants(check, readme);
        if (Files.isReadable(DOCUMENT)) {
            String document = Files.readString(DOCUMENT);
            methods(check, plain(readme), document);
            actions(check, plain(readme), document);
        } else {
            System.out.println("ReadmeTest: " + DOCUMENT + " is not here, so that README.md is not compared with it");
        }
        check.due("README.md tells of 512 calls", plain(readme).contains("An object is good for 512 calls") ? 1 : 0, 1);
        check.due("README.md tells of .ci/run", readme.contains("bash .ci/run") ? 1 : 0, 1);
        check.end();
    }

    private static String plain(String text) {
        return text.replaceAll("\\s+", " ");
    }

    private static void example(Check check, String readme) throws Exception {
        int start = readme.indexOf("```java");
        String[] lines = readme.substring(start, readme.indexOf("```", start + 3)).split("\n");
        HedgeChains hedges = new HedgeChains();
        for (String line : lines) {
            Matcher call = CALL.matcher(line);
            boolean isCall = line.startsWith("hedges.");
            check.due("a call whose answer is told: " + line, isCall == call.find() ? 1 : 0, 1);
            if (isCall) {
                check.due(line, answer(hedges, call.group(1), call.group(2)), Integer.parseInt(call.group(3)));
            }
        }
        check.due("calls of the example are shown", lines.length > 3 ? 1 : 0, 1);
    }

    private static int answer(HedgeChains hedges, String name, String arguments) throws Exception {
        List<Object> values = new ArrayList<>();
        for (String each : arguments.isEmpty() ? new String[0] : arguments.split(", ")) {
            values.add(each.startsWith("'") ? (int) each.charAt(1) : Integer.parseInt(each));
        }
        for (Method method : HedgeChains.class.getMethods()) {
            if (method.getName().equals(name) && method.getParameterCount() == values.size()) {
                return (int) method.invoke(hedges, values.toArray());
            }
        }
        throw new IllegalArgumentException("no method " + name + " for " + arguments);
    }

    private static void constants(Check check, String readme) {
        String[] rows = {
            "| `INVALID_ARGUMENT` | " + HedgeChains.INVALID_ARGUMENT + " | An argument is out of range, or names something that does not exist. |",
            "| `ILLEGAL_STATE` | " + HedgeChains.ILLEGAL_STATE + " | The call is not possible in the present state. |",
            "| `CAPACITY_EXCEEDED` | " + HedgeChains.CAPACITY_EXCEEDED + " | There is no room. |",
            "| `NONE` | " + HedgeChains.NONE + " | There is no such value. |"};
        for (String row : rows) {
            check.due("README.md tells " + row, readme.contains(row) ? 1 : 0, 1);
        }
    }

    /** What a method takes and answers is told in the document's own words. */
    private static void methods(Check check, String readme, String document) {
        int told = 0;
        for (String promise : document.split("\n## ")) {
            Matcher face = Pattern.compile("(?m)^`int (\\w+)\\(([^)]*)\\)`: ").matcher(promise);
            if (face.find()) {
                told++;
                String call = "- `" + face.group(1) + "(" + face.group(2).replace("int ", "") + ")`: ";
                int at = readme.indexOf(call);
                check.due("README.md tells of " + call, at >= 0 ? 1 : 0, 1);
                words(check, at < 0 ? "" : untilNext(readme, at), promise);
            }
        }
        check.due("methods that are told of", told, 22);
    }

    private static String untilNext(String readme, int at) {
        Matcher next = Pattern.compile(" - `\\w+\\(| #").matcher(readme);
        return next.find(at) ? readme.substring(at, next.start()) : readme.substring(at);
    }

    private static void words(Check check, String told, String promise) {
        StringBuilder taken = new StringBuilder();
        Matcher parameter = Pattern.compile("(?m)^- (`\\w+`: .*)$").matcher(promise);
        while (parameter.find()) {
            taken.append(taken.length() == 0 ? "" : "; ").append(parameter.group(1));
        }
        String takes = "Takes " + (taken.length() == 0 ? "nothing" : taken) + ". Answers";
        check.due(takes + " in " + told, told.contains(takes) ? 1 : 0, 1);
        Matcher answer = Pattern.compile("(?m)^Returns (.*)$").matcher(promise);
        check.due("the promise tells what is answered", answer.find() ? 1 : 0, 1);
        check.due(told + " ends with " + answer.group(1), told.endsWith("Answers " + answer.group(1)) ? 1 : 0, 1);
    }

    private static void actions(Check check, String readme, String document) {
        List<String> actions = new ArrayList<>();
        for (String promise : document.split("\n## ")) {
            Matcher face = Pattern.compile("(?m)^`int (\\w+)\\(.*This is an action").matcher(promise);
            if (face.find()) {
                actions.add("`" + face.group(1) + "`");
            }
        }
        String told = "These methods are actions: " + String.join(", ", actions) + ".";
        check.due(told, readme.contains(told) ? 1 : 0, 1);
    }
}
