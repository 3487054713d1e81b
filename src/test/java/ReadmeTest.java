import java.io.IOException;
import java.nio.file.Files;
import java.nio.file.Path;
import java.util.ArrayList;
import java.util.List;
import java.util.regex.Matcher;
import java.util.regex.Pattern;

/** What README.md says of using the class is true as it stands there. */
public final class ReadmeTest {
    private static final Check CHECK = new Check("ReadmeTest");
    private static final Pattern CALL = Pattern.compile("\\.(append|truncate|load)\\(([^()]*)\\)");

    public static void main(String[] args) throws IOException, InterruptedException {
        String readme = Files.readString(Path.of("README.md"));
        String example = first(blocks(readme, "java"));
        List<String> texts = blocks(readme, "text");
        followCalls(example, first(texts));
        runProgram(example, first(blocks(readme, "sh")), texts.size() > 1 ? texts.get(1) : "");
        namesWhatIsThere(readme);
        CHECK.end();
    }

    private static List<String> blocks(String readme, String language) {
        List<String> found = new ArrayList<>();
        Matcher block = Pattern.compile("(?ms)^```" + language + "\n(.*?)^```$").matcher(readme);
        while (block.find()) {
            found.add(block.group(1));
        }
        return found;
    }

    private static String first(List<String> blocks) {
        return blocks.isEmpty() ? "" : blocks.get(0);
    }

    /** The calls alone, on a new object: each one is answered as the document says, up to a loaded system. */
    private static void followCalls(String example, String systemText) {
        CHECK.about("its example can be followed from an empty text buffer to a loaded system");
        ThermalCoreScheduler x = new ThermalCoreScheduler();
        StringBuilder bytes = new StringBuilder();
        boolean loaded = false;
        Matcher call = CALL.matcher(example);
        while (!loaded && call.find()) {
            int[] given = numbers(call.group(2));
            String name = call.group();
            if (call.group(1).equals("append")) {
                addBytes(bytes, given);
                CHECK.same(name, Check.answer(() -> x.append(given[0], given[1], given[2], given[3], given[4])),
                        bytes.length());
            } else if (call.group(1).equals("truncate")) {
                CHECK.same(name, Check.answer(() -> x.truncate(given[0])), given[0]);
                bytes.setLength(Math.min(given[0], bytes.length()));
            } else {
                CHECK.same(name + " answers a number of domains", x.load() >= 1, true);
                loaded = true;
            }
        }
        CHECK.same("load() is called", loaded, true);
        CHECK.same("the text that the calls write", bytes.toString(), systemText.stripTrailing());
        CHECK.same("clock() once it is loaded", Check.answer(x::clock), 0);
    }

    private static int[] numbers(String list) {
        if (list.isBlank()) {
            return new int[0];
        }
        String[] written = list.split(",");
        int[] given = new int[written.length];
        for (int i = 0; i < given.length; i++) {
            given[i] = Integer.decode(written[i].strip());
        }
        return given;
    }

    private static void addBytes(StringBuilder bytes, int[] given) {
        for (int value : given) {
            for (int shift = 24; shift >= 0; shift -= 8) {
                bytes.append((char) (value >>> shift & 255));
            }
        }
    }

    /** The program and its commands, as they are written, in a directory that holds the class as this one does. */
    private static void runProgram(String example, String commands, String printed)
            throws IOException, InterruptedException {
        CHECK.about("its example, as it is written");
        CHECK.same("there are commands for the example", commands.isBlank(), false);
        Path main = Path.of("src/main/java/ThermalCoreScheduler.java");
        try (Scratch scratch = new Scratch()) {
            scratch.write(main.toString(), Files.readString(main));
            scratch.write("Example.java", example);
            scratch.run("", "sh", "-e", "-c", commands);
            CHECK.same("the commands end with", scratch.exitCode, 0);
            CHECK.same("the program prints", scratch.printed, printed);
        }
    }

    private static void namesWhatIsThere(String readme) {
        CHECK.about("what README.md names is there");
        Matcher name = Pattern.compile("`((?:\\.\\./shared|src|\\.ci)/[\\w./]*\\w|[A-Z]+\\.md)`").matcher(readme);
        int found = 0;
        while (name.find()) {
            found++;
            CHECK.same(name.group(1) + " exists", Files.exists(Path.of(name.group(1))), true);
        }
        CHECK.same("it names files", found > 0, true);
        CHECK.same("it has its command for the tests", blocks(readme, "sh").contains(".ci/run\n"), true);
    }
}
