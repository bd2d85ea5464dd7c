import java.io.OutputStream;
import java.io.PrintStream;
import java.io.StringWriter;
import java.lang.reflect.Method;
import java.net.URI;
import java.net.URL;
import java.net.URLClassLoader;
import java.nio.file.Files;
import java.nio.file.Path;
import java.util.List;
import java.util.Set;
import java.util.TreeSet;
import javax.tools.JavaCompiler;
import javax.tools.JavaFileObject;
import javax.tools.SimpleJavaFileObject;
import javax.tools.StandardJavaFileManager;
import javax.tools.ToolProvider;

/**
 * That the test of each sentence fails if the sentence is broken: the program is changed as breaks.txt tells, and the test
 * runs with that. A break that does not fit the program any more is told and left out, but each sentence wants one that fits:
 * where the program was changed, its breaks are to be written anew. Only a program that was written anew as a whole, which
 * most of them do not fit, is let pass without them.
 */
public final class BreaksTest {
    private static final Path PROGRAM = Path.of("src/main/java/HedgeChains.java");
    private static final Path BREAKS = Path.of("src/test/breaks.txt");
    private static final PrintStream OUT = System.out;

    private final Check check = new Check("BreaksTest");
    private final Path classes;
    private final Set<String> tried = new TreeSet<>();
    private int fitting = 0;
    private int leftOut = 0;

    private BreaksTest(Path classes) {
        this.classes = classes;
    }

    public static void main(String[] args) throws Exception {
        Path classes = Files.createTempDirectory("breaks");
        BreaksTest breaks = new BreaksTest(classes);
        try {
            breaks.tryAll(plain(Files.readString(PROGRAM)), Files.readString(BREAKS));
        } finally {
            System.setOut(OUT);
            try (var files = Files.list(classes)) {
                for (Path file : files.toList()) {
                    Files.delete(file);
                }
            }
            Files.delete(classes);
        }
        System.out.println("BreaksTest: " + breaks.leftOut + " breaks do not fit the program");
        breaks.check.end();
    }

    private static String plain(String text) {
        return text.replaceAll("(?s)/\\*.*?\\*/", " ").replaceAll("//[^\n]*", " ").replaceAll("\\s+", " ").trim();
    }

    private void tryAll(String program, String breaks) throws Exception {
        for (String block : breaks.replaceAll("(?m)^#.*\n", "").trim().split("\n\\s*\n")) {
            String[] lines = block.split("\n", 2);
            String[] sides = lines[1].split("(?m)^=>", 2);
            tryOne(program, lines[0].trim(), plain(sides[0]), plain(sides[1]));
        }
        boolean isWrittenAnew = leftOut > fitting;
        for (Class<?> tests : SentencesTest.TESTS) {
            for (Method test : Sentences.of(tests)) {
                boolean isTried = isWrittenAnew || tried.contains(Sentences.name(test));
                check.due("breaks.txt has a break that fits for " + Sentences.name(test), isTried ? 1 : 0, 1);
            }
        }
    }

    private void tryOne(String program, String test, String stands, String instead) throws Exception {
        int at = program.indexOf(stands);
        boolean once = at >= 0 && program.indexOf(stands, at + 1) < 0;
        if (!once || !compiles(program.substring(0, at) + instead + program.substring(at + stands.length()))) {
            leftOut++;
            System.out.println("BreaksTest: does not fit: " + test + ": " + stands + " => " + instead);
            return;
        }
        fitting++;
        tried.add(test);
        check.due(test + " holds with " + instead + " for " + stands, holds(test) ? 1 : 0, 0);
    }

    private boolean compiles(String program) throws Exception {
        JavaCompiler compiler = ToolProvider.getSystemJavaCompiler();
        try (StandardJavaFileManager files = compiler.getStandardFileManager(null, null, null)) {
            JavaFileObject source = new SimpleJavaFileObject(URI.create("string:///HedgeChains.java"), JavaFileObject.Kind.SOURCE) {
                @Override
                public CharSequence getCharContent(boolean ignoreErrors) {
                    return program;
                }
            };
            List<String> options = List.of("-nowarn", "-d", classes.toString());
            return compiler.getTask(new StringWriter(), files, null, options, null, List.of(source)).call();
        }
    }

    /** The test and what it uses are loaded anew, so that they find the broken program. */
    private boolean holds(String test) throws Exception {
        String[] names = test.split("\\.");
        URL[] places = {classes.toUri().toURL(), BreaksTest.class.getProtectionDomain().getCodeSource().getLocation()};
        try (URLClassLoader loader = new URLClassLoader(places, ClassLoader.getPlatformClassLoader())) {
            Method holds = loader.loadClass("Sentences").getDeclaredMethod("holds", Method.class);
            holds.setAccessible(true);
            Method method = loader.loadClass(names[0]).getDeclaredMethod(names[1], loader.loadClass("Check"));
            System.setOut(new PrintStream(OutputStream.nullOutputStream()));
            return (boolean) holds.invoke(null, method);
        } finally {
            System.setOut(OUT);
        }
    }
}
