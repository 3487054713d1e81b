import java.nio.charset.StandardCharsets;
import java.util.Arrays;
import java.util.function.Supplier;

/** What the tests share: counting wrong answers, and writing system texts into a scheduler. */
final class Check {
    private final String name;
    private int asked;
    private int wrong;
    private String sentence = "";

    Check(String name) {
        this.name = name;
    }

    /** Names the sentence of the document that the next answers stand for. */
    void about(String words) {
        sentence = " [" + words + "]";
    }

    void same(String call, Object got, Object due) {
        asked++;
        if (!due.equals(got)) {
            wrong++;
            System.out.println(name + sentence + ": " + call + " answered " + got + ", due is " + due);
        }
    }

    /** The name of the exception that a call throws, or what it returns. */
    static Object answer(Supplier<Object> call) {
        try {
            return call.get();
        } catch (RuntimeException e) {
            return "throws." + e.getClass().getSimpleName();
        }
    }

    void state(String call, Supplier<Object> asks) {
        same(call, answer(asks), "throws.IllegalStateException");
    }

    void argument(String call, Supplier<Object> asks) {
        same(call, answer(asks), "throws.IllegalArgumentException");
    }

    void element(String call, Supplier<Object> asks) {
        same(call, answer(asks), "throws.NoSuchElementException");
    }

    void arithmetic(String call, Supplier<Object> asks) {
        same(call, answer(asks), "throws.ArithmeticException");
    }

    void end() {
        if (wrong == 0 && asked > 0) {
            System.out.println(name + ": all " + asked + " answers are as due");
            return;
        }
        System.out.println(name + ": " + wrong + " of " + asked + " answers are not as due");
        System.exit(1);
    }

    /** Appends a text to the buffer, which must be empty. */
    static void write(ThermalCoreScheduler x, String text) {
        byte[] all = text.getBytes(StandardCharsets.ISO_8859_1);
        byte[] padded = Arrays.copyOf(all, (all.length + 19) / 20 * 20);
        for (int i = 0; i < padded.length; i += 20) {
            x.append(word(padded, i), word(padded, i + 4), word(padded, i + 8), word(padded, i + 12),
                    word(padded, i + 16));
        }
        x.truncate(all.length);
    }

    private static int word(byte[] b, int i) {
        return (b[i] & 255) << 24 | (b[i + 1] & 255) << 16 | (b[i + 2] & 255) << 8 | b[i + 3] & 255;
    }

    static int load(ThermalCoreScheduler x, String text) {
        write(x, text);
        return x.load();
    }

    static ThermalCoreScheduler loaded(String text) {
        ThermalCoreScheduler x = new ThermalCoreScheduler();
        int answer = load(x, text);
        if (answer < 1) {
            throw new IllegalStateException("the test's text is wrong: " + answer + " at " + x.errorPosition());
        }
        return x;
    }
}
