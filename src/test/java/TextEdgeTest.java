import java.nio.charset.StandardCharsets;
import java.util.ArrayList;
import java.util.List;

/** The boundary cases of section 2 and of promises 1 to 5: the text buffer, the system text and its errors. */
public final class TextEdgeTest {
    private static final Check CHECK = new Check("TextEdgeTest");
    private static final String SYSTEM = "system 100;";
    private static final String DOMAIN = "domain 2 1000 100 100 5 0 2 race;";
    private static final String LEVEL = "level 10 50;";
    private static final int BLANKS = 0x20202020;

    /** A piece of a text; a number has the ends of its range, a word or a semicolon has none. */
    private record Token(String text, int least, int greatest) {
        boolean isNumber() {
            return greatest > 0;
        }
    }

    public static void main(String[] args) {
        emptyAndFullBuffer();
        refusedAppend();
        truncateToBothEnds();
        truncatedBytesAreGone();
        bytesInOrder();
        bufferIsEmptyAfterLoad();
        errorPositionOfTheLatestLoad();
        failedLoadChangesNothingElse();
        secondLoadBeginsAnew();
        noTraceOfAnEarlierText();
        numbersOfDomainsAndLevels();
        rangesAtEveryPlace();
        frequenciesIncreaseStrictly();
        numbersOfDigits();
        baseLevelAboveTheHighest();
        everyByteAtEveryKindOfPlace();
        tokensAsLongAsTheyGo();
        endOfTheText();
        endOfAFullText();
        leastPositionThenLeastCode();
        keywordsThatAreOneTooMany();
        CHECK.end();
    }

    private static void text(String text, int due, int position) {
        ThermalCoreScheduler x = new ThermalCoreScheduler();
        CHECK.same("load of " + text, Check.load(x, text), due);
        CHECK.same("errorPosition of " + text, x.errorPosition(), position);
    }

    private static int appendBlanks(ThermalCoreScheduler x) {
        return x.append(BLANKS, BLANKS, BLANKS, BLANKS, BLANKS);
    }

    private static ThermalCoreScheduler blank(int length) {
        ThermalCoreScheduler x = new ThermalCoreScheduler();
        for (int i = 0; i < length; i += 20) {
            appendBlanks(x);
        }
        x.truncate(length);
        return x;
    }

    // ---- promises 1 to 5

    private static void emptyAndFullBuffer() {
        CHECK.about("promise 1: with an empty text buffer");
        ThermalCoreScheduler x = new ThermalCoreScheduler();
        CHECK.argument("truncate(1) of a new object", () -> x.truncate(1));
        CHECK.same("load() of a new object", x.load(), -11);
        CHECK.same("errorPosition()", x.errorPosition(), 0);
        CHECK.about("promise 1: without a system");
        CHECK.state("clock() of a new object", () -> new ThermalCoreScheduler().clock());
        CHECK.about("promise 2: returns the new length");
        for (int length = 20; length <= 500; length += 20) {
            CHECK.same("append", appendBlanks(x), length);
        }
        CHECK.same("load() of 500 blanks", x.load(), -11);
        CHECK.same("errorPosition()", x.errorPosition(), 500);
    }

    private static void refusedAppend() {
        CHECK.about("promise 2: if the length would be above 500, nothing is appended");
        for (int length = 475; length <= 500; length++) {
            ThermalCoreScheduler x = blank(length);
            int before = length;
            if (length <= 480) {
                CHECK.same("append to " + length, appendBlanks(x), length + 20);
                continue;
            }
            CHECK.state("append to " + length, () -> x.append(-1, -1, -1, -1, -1));
            CHECK.argument("truncate to one more", () -> x.truncate(before + 1));
            CHECK.same("truncate to the same", x.truncate(before), before);
            CHECK.same("load() of nothing but blanks", x.load(), -11);
            CHECK.same("errorPosition() at the end of the blanks", x.errorPosition(), before);
        }
        CHECK.about("promise 2: a refused append leaves the bytes");
        ThermalCoreScheduler y = new ThermalCoreScheduler();
        String text = SYSTEM + DOMAIN + LEVEL;
        Check.write(y, text + " ".repeat(495 - text.length()));
        CHECK.state("append to 495", () -> y.append(-1, -1, -1, -1, -1));
        CHECK.same("load()", y.load(), 1);
        CHECK.about("promise 2: this method needs no system, and is refused with one in the same way");
        for (int i = 0; i < 25; i++) {
            appendBlanks(y);
        }
        CHECK.state("append with a system", () -> y.append(0, 0, 0, 0, 0));
        CHECK.same("clock()", y.clock(), 0);
    }

    private static void truncateToBothEnds() {
        CHECK.about("promise 3: negative or greater than the present length");
        for (int length : new int[] {0, 1, 20, 137, 499, 500}) {
            ThermalCoreScheduler x = blank(length);
            for (int wrong : new int[] {-1, length + 1, Integer.MIN_VALUE, Integer.MAX_VALUE}) {
                CHECK.argument("truncate(" + wrong + ") of " + length, () -> x.truncate(wrong));
            }
            CHECK.same("truncate to the present length", x.truncate(length), length);
            CHECK.same("load()", x.load(), -11);
            CHECK.same("nothing was cut off", x.errorPosition(), length);
            ThermalCoreScheduler y = blank(length);
            CHECK.same("truncate(0)", y.truncate(0), 0);
            CHECK.argument("truncate(1) after it", () -> y.truncate(1));
        }
        CHECK.about("promise 3: a refused call leaves the buffer");
        ThermalCoreScheduler z = new ThermalCoreScheduler();
        Check.write(z, SYSTEM + DOMAIN + LEVEL);
        CHECK.argument("truncate(57) of 56", () -> z.truncate(57));
        CHECK.argument("truncate(-1) of 56", () -> z.truncate(-1));
        CHECK.same("load()", z.load(), 1);
    }

    private static void truncatedBytesAreGone() {
        CHECK.about("promise 3: truncates to its first bytes");
        ThermalCoreScheduler x = new ThermalCoreScheduler();
        Check.write(x, SYSTEM + DOMAIN + LEVEL + "level 11 1;");
        CHECK.same("truncate", x.truncate(56), 56);
        CHECK.same("append behind the rest", appendBlanks(x), 76);
        CHECK.same("load()", x.load(), 1);
        CHECK.same("one level", x.domainValue(0, 6), 1);
    }

    private static void bytesInOrder() {
        CHECK.about("promise 2: the four bytes of each argument in order, the most significant byte first");
        for (int place = 0; place < 20; place++) {
            for (int wrong : new int[] {0, 1, 127, 128, 255}) {
                int[] words = {BLANKS, BLANKS, BLANKS, BLANKS, BLANKS};
                int shift = 24 - place % 4 * 8;
                words[place / 4] = words[place / 4] & ~(255 << shift) | wrong << shift;
                ThermalCoreScheduler x = new ThermalCoreScheduler();
                x.append(words[0], words[1], words[2], words[3], words[4]);
                CHECK.same("load() with the byte " + wrong, x.load(), -11);
                CHECK.same("its position", x.errorPosition(), place);
            }
        }
    }

    private static void bufferIsEmptyAfterLoad() {
        CHECK.about("promise 4: the buffer is empty afterwards in every case");
        String[] texts = {"", " ", SYSTEM, "system 10000;", SYSTEM + DOMAIN + LEVEL, " ".repeat(500)};
        for (String text : texts) {
            ThermalCoreScheduler x = new ThermalCoreScheduler();
            Check.load(x, text);
            CHECK.argument("truncate(1) after load of " + text, () -> x.truncate(1));
            CHECK.same("append after load of " + text, appendBlanks(x), 20);
            x.truncate(0);
            CHECK.same("the second load", x.load(), -11);
            CHECK.same("its errorPosition()", x.errorPosition(), 0);
        }
    }

    private static void errorPositionOfTheLatestLoad() {
        CHECK.about("promise 5: NONE if load() was never called");
        ThermalCoreScheduler x = new ThermalCoreScheduler();
        CHECK.same("errorPosition()", x.errorPosition(), ThermalCoreScheduler.NONE);
        Check.write(x, "system 1;x");
        CHECK.same("errorPosition() before load()", x.errorPosition(), ThermalCoreScheduler.NONE);
        CHECK.about("promise 5: the position of the error found by the latest call");
        CHECK.same("load()", x.load(), -11);
        CHECK.same("errorPosition()", x.errorPosition(), 9);
        Check.write(x, "system 10000;");
        CHECK.same("errorPosition() is kept by append and truncate", x.errorPosition(), 9);
        CHECK.same("load()", x.load(), -12);
        CHECK.same("errorPosition()", x.errorPosition(), 7);
        CHECK.about("promise 5: NONE if the latest call found no error");
        CHECK.same("load()", Check.load(x, SYSTEM + DOMAIN + LEVEL), 1);
        CHECK.same("errorPosition()", x.errorPosition(), ThermalCoreScheduler.NONE);
        CHECK.same("load() of nothing", x.load(), -11);
        CHECK.same("errorPosition()", x.errorPosition(), 0);
    }

    private static void failedLoadChangesNothingElse() {
        CHECK.about("section 6: a method that returns an error changes nothing, except that load() empties the buffer");
        String[] wrong = {"", "system", SYSTEM + DOMAIN, SYSTEM + DOMAIN + "level 0 1;",
            "system 7;domain 1 1 1 1 1 1 1 max;level 1 1;level 2 2;level 3 3;level 4 4;level 5 5;level 6 6;"};
        for (String text : wrong) {
            ThermalCoreScheduler x = Check.loaded(SYSTEM + DOMAIN + LEVEL + "level 20 90;" + DOMAIN + LEVEL);
            x.addJob(1, 2, 0, 0, 35, 3);
            x.addJob(0, 2, 1, 1, 35, 3);
            x.tick(2);
            x.setAmbient(900);
            String before = Picture.withoutErrorPosition(x);
            CHECK.same("load of " + text + " fails", Check.load(x, text) < 0, true);
            CHECK.same("the picture after load of " + text, Picture.withoutErrorPosition(x), before);
            CHECK.same("undo() still knows the actions", x.undo(), 3);
            CHECK.same("undo() still knows the actions", x.undo(), 2);
        }
    }

    private static void secondLoadBeginsAnew() {
        CHECK.about("promise 4: it replaces the current system, and everything is as described with 'at first'");
        String[] texts = {SYSTEM + DOMAIN + LEVEL + "level 20 90;" + DOMAIN + LEVEL,
            "system 7;domain 4 300 90 80 3 1 5 max;level 7 8;level 8 9;", SYSTEM + (DOMAIN + LEVEL).repeat(4)};
        for (String first : texts) {
            for (String second : texts) {
                ThermalCoreScheduler x = Check.loaded(first);
                workHard(x);
                CHECK.same("the second load", Check.load(x, second) > 0, true);
                ThermalCoreScheduler fresh = Check.loaded(second);
                CHECK.same("the picture after the second load", Picture.of(x), Picture.of(fresh));
                CHECK.about("promise 4: no action can be undone");
                CHECK.same("undo()", x.undo(), -2);
                CHECK.about("promise 4: what comes after it is as with a new object");
                workHard(x);
                workHard(fresh);
                CHECK.same("the picture after some actions", Picture.of(x), Picture.of(fresh));
                for (int left = 9; left >= 0; left--) {
                    CHECK.same("undo()", x.undo(), left);
                    fresh.undo();
                    CHECK.same("the picture after undo()", Picture.of(x), Picture.of(fresh));
                }
            }
        }
    }

    /** More than ten actions that leave jobs in every stage, and every count of domain 0 above 0. */
    private static void workHard(ThermalCoreScheduler x) {
        x.setAmbient(200);
        x.addJob(0, 0, 0, 0, 15, 1);
        x.addJob(0, 0, 0, 0, 500, 99);
        x.addJob(0, 0, 30, 30, 500, 99);
        x.tick(3);
        x.setLimit(0, 150);
        x.tick(2);
        x.setPolicy(0, 3);
        x.cancelJob(1);
        x.tick(2);
        x.setLimit(0, 9000);
        for (int job = 0; job < 6; job++) {
            x.addJob(0, 7, 0, 0, 500, 99);
        }
        x.tick(1);
        CHECK.same("a waiting and a ready job", 10 * x.jobValue(2, 7) + x.jobValue(8, 7), 1);
        CHECK.same("a done, a cancelled and a running job", 100 * x.jobValue(0, 7) + 10 * x.jobValue(1, 7)
                + x.jobValue(3, 7), 342);
        CHECK.same("a level above 0 if there is one", x.level(0), x.domainValue(0, 6) - 1);
    }

    private static void noTraceOfAnEarlierText() {
        CHECK.about("promise 4: a wrong text leaves nothing for the next one");
        ThermalCoreScheduler x = new ThermalCoreScheduler();
        Check.load(x, "system 9;domain 4 9 9 9 9 4 9 race;level 998 9;level 999 9;domain 4 9 9 9 9 4 9 race;level");
        for (String policy : new String[] {"max", "race", "min", "demand", "max"}) {
            String text = "system 1;domain 2 3 4 5 6 0 8 " + policy + ";level 10 11;";
            CHECK.same("load of " + policy, Check.load(x, text), 1);
            CHECK.same("the picture of " + policy, Picture.of(x), Picture.of(Check.loaded(text)));
        }
    }

    // ---- section 2

    private static List<Token> fullText() {
        List<Token> all = new ArrayList<>();
        word(all, "system ");
        number(all, 100, 0, 9999);
        for (int domain = 0; domain < 4; domain++) {
            word(all, ";domain ");
            number(all, 2, 1, 4);
            number(all, 1000, 0, 99999);
            number(all, 100, 0, 999);
            number(all, 200, 1, 999);
            number(all, 5, 0, 99);
            number(all, 0, 0, 4);
            number(all, 2, 0, 99);
            word(all, "race");
            for (int level = 1; level <= 5; level++) {
                word(all, ";level ");
                number(all, 10 * level, 10 * level - 9, level == 5 ? 999 : 10 * level + 9);
                number(all, 50, 0, 999);
            }
        }
        word(all, ";");
        return all;
    }

    private static void word(List<Token> all, String text) {
        all.add(new Token(text, 0, 0));
    }

    private static void number(List<Token> all, int number, int least, int greatest) {
        all.add(new Token(number + " ", least, greatest));
    }

    private static String joined(List<Token> all, int end) {
        StringBuilder text = new StringBuilder();
        for (Token token : all.subList(0, end)) {
            text.append(token.text);
        }
        return text.toString();
    }

    /** The full text with another number at a place. */
    private static void replaced(List<Token> all, int place, String number, int due, int position) {
        List<Token> other = new ArrayList<>(all);
        other.set(place, new Token(number + " ", 0, 0));
        text(joined(other, other.size()), due, position);
    }

    private static void rangesAtEveryPlace() {
        CHECK.about("section 2, error 2: a number out of its range, at its first byte");
        List<Token> all = fullText();
        text(joined(all, all.size()), 4, -1);
        for (int place = 0; place < all.size(); place++) {
            Token token = all.get(place);
            if (!token.isNumber()) {
                continue;
            }
            int at = joined(all, place).length();
            replaced(all, place, "" + token.least, 4, -1);
            replaced(all, place, "" + token.greatest, 4, -1);
            if (token.least > 0) {
                replaced(all, place, "" + (token.least - 1), -12, at);
            }
            boolean lowFrequency = all.get(place - 1).text.equals(";level ") && token.greatest < 999;
            // A frequency that is too great for the next one is wrong there.
            if (lowFrequency) {
                int next = joined(all, place + 3).length();
                replaced(all, place, "" + (token.greatest + 1), -12, next);
                replaced(all, place, "999", -12, next + 1);
                replaced(all, place, "1000", -12, at);
            } else if (token.greatest < 99999) {
                replaced(all, place, "" + (token.greatest + 1), -12, at);
            }
        }
    }

    private static void frequenciesIncreaseStrictly() {
        CHECK.about("section 2: the frequencies of the levels of a domain increase strictly");
        String start = SYSTEM + DOMAIN + LEVEL;
        text(start + "level 11 0;", 1, -1);
        text(start + "level 10 0;", -12, 62);
        text(start + "level 9 0;", -12, 62);
        text(start + "level 20 0;level 11 0;", -12, 73);
        text(start + "level 11 0;level 12 0;level 13 0;level 13 0;", -12, 95);
        text(SYSTEM + DOMAIN + "level 998 0;level 999 0;", 1, -1);
        text(SYSTEM + DOMAIN + "level 999 0;level 1000 0;", -12, 62);
        CHECK.about("section 2: .. than that of the level before it in the same domain");
        text(SYSTEM + DOMAIN + "level 999 0;" + DOMAIN + "level 1 0;", 2, -1);
        text(SYSTEM + DOMAIN + "level 5 0;" + DOMAIN + "level 5 0;", 2, -1);
    }

    private static void numbersOfDigits() {
        CHECK.about("section 2, error 1: a number of six or more digits");
        List<Token> all = fullText();
        for (int place = 0; place < all.size(); place++) {
            if (all.get(place).isNumber()) {
                int at = joined(all, place).length();
                String number = all.get(place).text.trim();
                replaced(all, place, "0".repeat(5 - number.length()) + number, 4, -1);
                replaced(all, place, "0".repeat(6 - number.length()) + number, -11, at);
                replaced(all, place, "100000", -11, at);
                replaced(all, place, "99999999999999999999", -11, at);
            }
        }
    }

    private static void baseLevelAboveTheHighest() {
        CHECK.about("section 2: if the base level is greater than the highest level, that is the base level");
        for (int levels = 1; levels <= 5; levels++) {
            for (int base = 0; base <= 4; base++) {
                StringBuilder text = new StringBuilder(SYSTEM + "domain 1 9 9 9 9 " + base + " 9 max;");
                for (int level = 1; level <= levels; level++) {
                    text.append("level ").append(level).append(" 1;");
                }
                ThermalCoreScheduler x = Check.loaded(text.toString());
                int due = base < levels ? base : levels - 1;
                CHECK.same("the base level " + base + " of " + levels + " levels", x.domainValue(0, 8), due);
                CHECK.same("the number of levels", x.domainValue(0, 6), levels);
            }
        }
    }

    private static void numbersOfDomainsAndLevels() {
        CHECK.about("section 2: the first statement is system");
        text(DOMAIN + LEVEL, -11, 0);
        text(LEVEL, -11, 0);
        text(SYSTEM + SYSTEM + DOMAIN + LEVEL, -11, 11);
        CHECK.about("section 2: then follow 1 to 4 domains, each with 1 to 5 levels");
        text(SYSTEM, -11, 11);
        text(SYSTEM + LEVEL, -11, 11);
        String levels = "";
        for (int count = 1; count <= 6; count++) {
            levels += "level " + count + " 0;";
            String text = SYSTEM;
            for (int domain = 1; domain <= 4; domain++) {
                text += DOMAIN + levels;
                text(text, count == 6 ? -13 : domain, count == 6 ? 11 + DOMAIN.length() + 50 : -1);
                String before = text.substring(0, text.length() - levels.length());
                text(before, count == 6 && domain > 1 ? -13 : -11,
                        count == 6 && domain > 1 ? 11 + DOMAIN.length() + 50 : before.length());
                String alone = SYSTEM + (DOMAIN + LEVEL).repeat(domain - 1) + DOMAIN + levels;
                text(alone, count == 6 ? -13 : domain, count == 6 ? alone.length() - 10 : -1);
            }
            if (count < 6) {
                text(text + DOMAIN + levels, -13, text.length());
            }
        }
    }

    private static void everyByteAtEveryKindOfPlace() {
        String rest = ";domain 1 0 0 1 0 0 0 max;level 1 0;";
        for (int b = 0; b < 256; b++) {
            String sign = new String(new byte[] {(byte) b}, StandardCharsets.ISO_8859_1);
            boolean blank = b == 32 || b == 10;
            boolean digit = b >= 48 && b <= 57;
            boolean letter = b >= 97 && b <= 122;
            int good = blank ? 1 : -11;
            CHECK.about("section 2: the byte " + b + " before the tokens");
            text(sign + "system 1" + rest, good, blank ? -1 : 0);
            CHECK.about("section 2: the byte " + b + " behind the tokens");
            text("system 1" + rest + sign, good, blank ? -1 : 44);
            CHECK.about("section 2: the byte " + b + " between two tokens");
            text("system 1 " + sign + rest, good, blank ? -1 : b == 59 ? 10 : 9);
            CHECK.about("section 2: the byte " + b + " between a word and a number");
            text("system" + sign + "1" + rest, digit ? 1 : good, blank || digit ? -1 : letter ? 0 : 6);
            CHECK.about("section 2: the byte " + b + " between a number and a semicolon");
            text("system 1" + sign + rest, digit ? 1 : good, blank || digit ? -1 : b == 59 ? 9 : 8);
            CHECK.about("section 2: the byte " + b + " inside a word");
            text("sys" + sign + "tem 1" + rest, -11, 0);
        }
    }

    private static void tokensAsLongAsTheyGo() {
        CHECK.about("section 2: a token is as long as its letters or digits follow one another");
        text("system1;domain2 3 4 5 6 1 2max;level7 8;", 1, -1);
        text("systemdomain 1;", -11, 0);
        text("system 1 1;", -11, 9);
        text("system 1a;", -11, 8);
        text("system 1;domain 1 0 0 1 0 0 0 maxlevel;", -11, 30);
        text("system 1;domain 1 0 0 1 0 0 0 max;level 1 0;level 1 2 3", -12, 50);
        text("system\n1\n;\ndomain\n1\n0\n0\n1\n0\n0\n0\nmax\n;\nlevel\n1\n0\n;\n", 1, -1);
        text("sys tem 1;", -11, 0);
        text("system 1 0;", -11, 9);
        CHECK.about("section 2, error 1: a word with a wrong, a missing or a further letter");
        String whole = "system 1;domain 1 0 0 1 0 0 0 %s;level 1 0;level 2 0;domain 1 0 0 1 0 0 0 max;level 1 0;";
        for (String policy : new String[] {"max", "min", "demand", "race"}) {
            String text = whole.formatted(policy);
            text(text, 2, -1);
            int start = 0;
            for (int at = 0; at < text.length(); at++) {
                if (!Character.isLetter(text.charAt(at))) {
                    start = at + 1;
                    continue;
                }
                char other = text.charAt(at) == 'q' ? 'r' : 'q';
                text(text.substring(0, at) + other + text.substring(at + 1), -11, start);
                text(text.substring(0, at) + text.substring(at + 1), -11, start);
                text(text.substring(0, at) + other + text.substring(at), -11, start);
                text(text.substring(0, at + 1) + other + text.substring(at + 1), -11, start);
            }
        }
    }

    /** Each beginning of a text that is right as a whole: only whole levels, and then nothing but blanks, can end it. */
    private static void endOfTheText() {
        String whole = "system 107;domain 2 1000 120 130 54 3 26 race;level 10 50;level 110 60;"
                + "domain 1 20 30 40 50 0 60 demand;level 34 56;";
        int lastWhole = 0;
        for (int end = 0; end <= whole.length(); end++) {
            CHECK.about("section 2: at the end of the text the position is its length, here " + end);
            String text = whole.substring(0, end);
            if (text.matches(".*level \\d+ \\d+;")) {
                int domains = text.indexOf("demand") > 0 ? 2 : 1;
                text(text, domains, -1);
                text(text + " \n ", domains, -1);
                lastWhole = end;
            } else if (text.endsWith("50;level 1")) {
                // The beginning of 110 is not greater than 10.
                text(text, -12, end - 1);
            } else if (text.matches("(?s).*[a-z]") && !text.matches("(?s).*\\b(system|domain|level|race|demand)")) {
                int first = end;
                while (first > 0 && Character.isLetter(text.charAt(first - 1))) {
                    first--;
                }
                text(text, -11, first);
            } else {
                text(text, -11, end);
                text(text + " \n ", -11, end + 3);
            }
        }
        CHECK.same("the last whole text", lastWhole, whole.length());
    }

    private static void endOfAFullText() {
        CHECK.about("section 2: the end of a text that fills the buffer");
        String text = SYSTEM + DOMAIN + LEVEL;
        text(text + "\n".repeat(500 - text.length()), 1, -1);
        text(" ".repeat(500 - text.length()) + text, 1, -1);
        text(" ".repeat(489) + SYSTEM, -11, 500);
        text(" ".repeat(500 - 44) + SYSTEM + DOMAIN, -11, 500);
        text(" ".repeat(499) + "s", -11, 499);
        text(text + " ".repeat(499 - text.length()) + "x", -11, 499);
        text(" ".repeat(492) + "system 1", -11, 500);
        text(" ".repeat(490) + "system 100000".substring(0, 10), -11, 500);
        text(" ".repeat(488) + "system 10000", -12, 495);
    }

    private static void leastPositionThenLeastCode() {
        CHECK.about("section 2: the error with the least position counts");
        text("system 10000 $ level", -12, 7);
        text("$ system 10000", -11, 0);
        text(SYSTEM + "domain 5 1000000", -12, 18);
        text(SYSTEM + "domain 1 1000000 1000", -11, 20);
        text(SYSTEM + DOMAIN + "level 1000 1000;level 1 1;", -12, 50);
        text(SYSTEM + DOMAIN + "level 1 1000;level 1 1;", -12, 52);
        CHECK.about("section 2: of several errors at one position, the one with the least code");
        text("system 100000;", -11, 7);
        text(SYSTEM + "domain 100000 1 1 1 1 1 1 max;", -11, 18);
        text(SYSTEM + DOMAIN + LEVEL + "level 000009 1;", -11, 62);
        String three = SYSTEM + (DOMAIN + LEVEL).repeat(3);
        text(three + DOMAIN + DOMAIN, -11, three.length() + DOMAIN.length());
        text(three + "domain 1 1 1 1 1 1 1 domain", -11, three.length() + 21);
        String five = SYSTEM + DOMAIN + "level 1 1;level 2 1;level 3 1;level 4 1;level 5 1";
        text(five + " level 6 1;", -11, five.length() + 1);
    }

    private static void keywordsThatAreOneTooMany() {
        CHECK.about("section 2, error 3: the keyword of a fifth domain");
        String four = SYSTEM + (DOMAIN + LEVEL).repeat(4);
        text(four, 4, -1);
        text(four + "domain", -13, four.length());
        text(four + "domain 9 x", -13, four.length());
        text(four + " \n domain", -13, four.length() + 3);
        text(four + "domainx", -11, four.length());
        text(four + "system 1;", -11, four.length());
        text(four + "level 11 1;", 4, -1);
        CHECK.about("section 2, error 3: the keyword of a sixth level of a domain");
        for (int before = 0; before < 4; before++) {
            String five = SYSTEM + (DOMAIN + LEVEL).repeat(before) + DOMAIN;
            for (int level = 1; level <= 5; level++) {
                five += "level " + level + " 1;";
            }
            text(five, before + 1, -1);
            text(five + "level", -13, five.length());
            text(five + " level 1 1;", -13, five.length() + 1);
            text(five + "levelx", -11, five.length());
            text(five + "6", -11, five.length());
            text(five + DOMAIN + LEVEL, before < 3 ? before + 2 : -13, before < 3 ? -1 : five.length());
        }
    }
}
