import java.io.IOException;
import java.nio.file.Files;
import java.nio.file.Path;
import java.util.List;
import java.util.stream.Collectors;
import java.util.stream.Stream;

/** The command for the tests runs all of them and fails if one fails; it is tried on small projects of its own. */
public final class CiTest {
    private static final Check CHECK = new Check("CiTest");
    private static final String SCRIPT = "main/.ci/run";
    private static final String OWN = "main/src/test/java/";
    private static final String SHARED = "shared/tests/";
    private static final String PASSES = "";
    private static final String FAILS = "System.exit(1);";
    private static final String THROWS = "new ThermalCoreScheduler().clock();";
    private static final String NO_JAVA = "this is no Java";

    public static void main(String[] args) throws IOException, InterruptedException {
        CHECK.about("it compiles the class with every test and runs them all");
        tries("every test passes", PASSES, PASSES, 0);
        CHECK.about("and fails if one fails");
        tries("an own test ends with exit code 1", FAILS, PASSES, 1);
        tries("a shared test ends with exit code 1", PASSES, FAILS, 1);
        tries("an own test throws", THROWS, PASSES, 1);
        tries("a shared test throws", PASSES, THROWS, 1);
        tries("an own test does not compile", NO_JAVA, PASSES, 1);
        tries("a shared test does not compile", PASSES, NO_JAVA, 1);
        withoutSharedTests();
        everyMainIsRun();
        CHECK.end();
    }

    /** The odd test is the first of two, so that the one behind it must run all the same. */
    private static void tries(String what, String own, String shared, int due)
            throws IOException, InterruptedException {
        try (Scratch scratch = new Scratch()) {
            copyProject(scratch);
            writeTest(scratch, OWN, "AnOwnTest", own);
            writeTest(scratch, OWN, "LastOwnTest", PASSES);
            writeTest(scratch, SHARED, "ASharedRun", shared);
            writeTest(scratch, SHARED, "LastSharedRun", PASSES);
            scratch.run("", "bash", SCRIPT);
            CHECK.same(what + ": the exit code", scratch.exitCode, due);
            runs(scratch, what, "AnOwnTest", !own.equals(NO_JAVA));
            // The own tests are compiled together, so one that can't be compiled holds the others back.
            runs(scratch, what, "LastOwnTest", !own.equals(NO_JAVA));
            runs(scratch, what, "ASharedRun", !shared.equals(NO_JAVA));
            runs(scratch, what, "LastSharedRun", true);
        }
    }

    private static void runs(Scratch scratch, String what, String name, boolean due) {
        CHECK.same(what + ": " + name + " runs", scratch.printed.contains("main of " + name + "\n"), due);
    }

    private static void withoutSharedTests() throws IOException, InterruptedException {
        try (Scratch scratch = new Scratch()) {
            copyProject(scratch);
            writeTest(scratch, OWN, "AnOwnTest", PASSES);
            scratch.run("", "bash", SCRIPT);
            CHECK.same("without ../shared/tests: the exit code", scratch.exitCode, 1);
        }
    }

    private static void copyProject(Scratch scratch) throws IOException {
        String source = "src/main/java/ThermalCoreScheduler.java";
        scratch.write("main/" + source, Files.readString(Path.of(source)));
        scratch.write(SCRIPT, Files.readString(Path.of(".ci/run")));
    }

    private static void writeTest(Scratch scratch, String directory, String name, String body) throws IOException {
        scratch.write(directory + name + ".java", "public final class " + name + " {\n"
                + "    public static void main(String[] args) {\n"
                + "        System.out.println(\"main of " + name + "\");\n"
                + "        " + body + "\n    }\n}\n");
    }

    /** The script knows the own tests by their names, so a main method under another name would never run. */
    private static void everyMainIsRun() throws IOException {
        CHECK.about("its command for the tests runs all of them");
        CHECK.same(".ci/run is executable", Files.isExecutable(Path.of(".ci/run")), true);
        List<Path> files;
        try (Stream<Path> all = Files.walk(Path.of("src/test"))) {
            files = all.filter(Files::isRegularFile).collect(Collectors.toList());
        }
        for (Path file : files) {
            boolean test = Files.readString(file).contains("static void main(String[] args)");
            boolean known = file.getParent().equals(Path.of("src/test/java"))
                    && file.toString().endsWith("Test.java");
            CHECK.same(file + " has a main method and is run", known, test);
        }
    }
}
