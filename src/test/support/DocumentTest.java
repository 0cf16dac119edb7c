import java.io.IOException;
import java.nio.file.Files;
import java.nio.file.Path;
import java.util.ArrayList;
import java.util.LinkedHashMap;
import java.util.List;
import java.util.Map;
import java.util.function.LongSupplier;

/**
 * A test that goes through sections of the document sentence by sentence. Each sentence is quoted ahead of its own test;
 * one that the document does not have there, that is left out, or that is quoted without an answer held against it, is
 * told as a wrong one.
 */
abstract class DocumentTest {
    static final int NONE = -1;
    static final long NO_NUMBER = 0x7ff8000000000000L;
    static final long INF = 0x7ff0000000000000L;
    static final long MINUS_INF = 0xfff0000000000000L;
    static final long MINUS_ZERO = Long.MIN_VALUE;
    static final long NAN = 0xfff0000000000001L;
    static final int MAX = 2000000000;
    static final int LEAST_INT = Integer.MIN_VALUE;
    static final int GREATEST_INT = Integer.MAX_VALUE;
    /** Series that are none where 1 has not been begun. */
    static final int[] NO_SERIES = {1, -1, 4, LEAST_INT, GREATEST_INT};
    static final int[] NO_STAMPS = {-1, MAX + 1, LEAST_INT, GREATEST_INT};
    static final int[] NO_ROOMS = {23, 201, 0, -24, LEAST_INT, GREATEST_INT};

    private static final Map<String, String> SECTIONS = new LinkedHashMap<>();
    /** What has not been quoted yet; what has is blank. */
    private static final Map<String, StringBuilder> LEFT = new LinkedHashMap<>();
    private static String section = "";
    private static String sentence = "";
    private static int answers;
    private static int wrong;

    // ---- the document

    /** The sections whose titles begin so are gone through by this test. */
    static void reads(String... titles) throws IOException {
        String document = Files.readString(Path.of("../shared/DOC.md"));
        for (String part : document.split("(?m)^## ")) {
            String title = part.lines().findFirst().orElse("");
            for (String begin : titles) {
                if (title.startsWith(begin)) {
                    SECTIONS.put(title, plain(part.substring(title.length())));
                }
            }
        }
        SECTIONS.forEach((title, text) -> LEFT.put(title, new StringBuilder(text)));
    }

    /** Without a promise's signature, and with one space between words. */
    private static String plain(String text) {
        return text.replaceAll("```text|```", " ").replaceFirst("^\\s*`[^`]*`:", " ").replaceAll("\\s+", " ").strip();
    }

    static void section(String title) {
        section = title;
        if (!SECTIONS.containsKey(title)) {
            fails("there is no such section");
        }
    }

    /** A sentence with its test. */
    static void says(String quote, Runnable test) {
        quoted(quote);
        int before = answers;
        try {
            test.run();
        } catch (RuntimeException thrown) {
            fails("a call threw " + thrown);
        }
        if (answers == before) {
            fails("no answer was held against it");
        }
    }

    /** Words that name no case: what they mean is tested with the sentences beside them. */
    static void namesNoCase(String quote) {
        quoted(quote);
    }

    private static void quoted(String quote) {
        sentence = quote;
        String whole = SECTIONS.getOrDefault(section, "");
        int again = whole.indexOf(quote);
        int first = again < 0 ? -1 : LEFT.get(section).indexOf(quote);
        if (again < 0) {
            fails("the document does not say so there");
        }
        for (int i = first; first >= 0 && i < first + quote.length(); i++) {
            LEFT.get(section).setCharAt(i, ' ');
        }
    }

    /** All that the sections say has been quoted. */
    static void ends() {
        LEFT.forEach((title, left) -> {
            if (!left.toString().matches("[\\s.;:,()]*")) {
                wrong++;
                System.out.println(title + ": without a test: " + left.toString().replaceAll("\\s+", " "));
            }
        });
        endsWithin();
    }

    /** Some of what the sections say has been quoted. */
    static void endsWithin() {
        System.out.println(wrong == 0 ? "all " + answers + " answers are as due" : wrong + " are not as due");
        if (wrong != 0) {
            System.exit(1);
        }
    }

    // ---- answers

    private static void fails(String what) {
        wrong++;
        System.out.println(section + ", \"" + sentence + "\": " + what);
    }

    static void due(String what, long got, long want) {
        answers++;
        if (got != want) {
            fails(what + " answered " + got + ", due is " + want);
        }
    }

    static void dueText(String what, String got, String want) {
        answers++;
        if (!got.equals(want)) {
            fails(what + " answered " + got + ", due is " + want);
        }
    }

    /** The call answers so, and nothing happens. */
    static void stays(String what, SeriesPress x, LongSupplier call, long want) {
        String before = look(x);
        due(what, call.getAsLong(), want);
        dueText(what + ", what there is then", look(x), before);
    }

    /** Everything that can be asked of an object, bytes aside, in as few calls as can be. */
    static String look(SeriesPress x) {
        StringBuilder seen = new StringBuilder("tape " + x.taped());
        for (int s = 0; s < 4; s++) {
            seen.append(look(x, s));
        }
        return seen.toString();
    }

    static String look(SeriesPress x, int s) {
        if (x.count(s, 0) < 0) {
            return " none";
        }
        StringBuilder seen = new StringBuilder(" room " + x.count(s, 0) + " late " + x.count(s, 3) + " last "
                + x.count(s, 7) + " window " + x.window(s, 0) + " " + x.window(s, 1));
        for (int b = 0; b < x.count(s, 2); b++) {
            seen.append(" block ").append(x.block(s, b, 3)).append(' ').append(x.block(s, b, 4)).append(' ')
                    .append(x.block(s, b, 5)).append(' ').append(x.fault(s, b, 0)).append(' ')
                    .append(x.fault(s, b, 1));
        }
        int points = x.count(s, 6);
        for (int i = 0; i < points; i++) {
            seen.append(' ').append(x.point(s, i, 0)).append('=').append(x.point(s, i, 1));
        }
        return seen.toString();
    }

    // ---- series

    static long d(double value) {
        return Double.doubleToRawLongBits(value);
    }

    static SeriesPress begun(int room) {
        SeriesPress x = new SeriesPress();
        x.begins(0, room);
        return x;
    }

    /** Series 0 of room 200 with stamps 10, 20, 30 .. and these values. */
    static SeriesPress with(double... values) {
        SeriesPress x = begun(200);
        for (int i = 0; i < values.length; i++) {
            x.add(0, 10 + 10 * i, d(values[i]));
        }
        return x;
    }

    /** Series 0 of room 24 with stamps 0, 1000000, 2000000 .., each in a block of its own. */
    static SeriesPress single(int points) {
        SeriesPress x = begun(24);
        for (int i = 0; i < points; i++) {
            x.add(0, 1000000 * i, i % 2 == 0 ? 1 : -1);
        }
        return x;
    }

    /** Series 0 of room 24 with a broken block (stamp 0), an open one (stamps 10, 20) and a late point (15). */
    static SeriesPress spoilt() {
        SeriesPress x = begun(24);
        x.add(0, 0, 5);
        x.seals(0);
        x.add(0, 10, 5);
        x.add(0, 20, 5);
        x.late(0, 15, 6);
        x.damage(0, 0, 0, 1);
        return x;
    }

    // ---- bits and bytes

    static String bare(String bits) {
        return bits.replace(" ", "");
    }

    static String low(long number, int width) {
        StringBuilder b = new StringBuilder();
        for (int i = width - 1; i >= 0; i--) {
            b.append(number >> i & 1);
        }
        return b.toString();
    }

    /** A value anew: zeros ahead and its own bits. */
    static String anew(int zeros, String bits) {
        return "11" + low(zeros, 5) + low(bare(bits).length() - 1, 6) + bare(bits);
    }

    /** Bits behind the head, those that fill up aside. */
    static String bitsOf(SeriesPress x, int series, int block) {
        StringBuilder bits = new StringBuilder();
        int bytes = x.block(series, block, 3) - x.block(series, block, 5);
        for (int i = 14; i < bytes; i++) {
            bits.append(low(x.octet(series, block, i), 8));
        }
        return bits.substring(0, x.block(series, block, 4));
    }

    static int checkOf(List<Integer> ahead) {
        int check = 7;
        for (int b : ahead) {
            check = (check * 31 + b) % 251;
        }
        return check;
    }

    static List<Integer> checked(List<Integer> ahead) {
        List<Integer> bytes = new ArrayList<>(ahead);
        bytes.add(checkOf(ahead));
        return bytes;
    }

    /** A sealed block of these bits behind the head, filled up, with a right check. */
    static List<Integer> sealed(long stamp, long value, int points, String bits) {
        StringBuilder all = new StringBuilder(low(stamp, 32) + low(value, 64) + low(points, 16) + bare(bits));
        while (all.length() % 8 != 0) {
            all.append('0');
        }
        List<Integer> bytes = new ArrayList<>();
        for (int i = 0; i < all.length(); i += 8) {
            bytes.add(Integer.parseInt(all.substring(i, i + 8), 2));
        }
        return checked(bytes);
    }

    /** A sound sealed block from stamp 0 on of so many bytes, 15 or 17 .. 200 (there is none of 16). */
    static List<Integer> soundOf(int length) {
        if (length == 15) {
            return sealed(0, 5, 1, "");
        }
        int more = ((length - 15) * 8 - 10) / 2;
        return sealed(0, 5, 2 + more, "10 0000001 0" + "00".repeat(more));
    }

    static void tape(SeriesPress x, List<Integer> bytes) {
        x.end(0);
        for (int i = 0; i < bytes.size(); i += 20) {
            int[] n = new int[5];
            for (int j = 0; j < 20; j++) {
                n[j / 4] = n[j / 4] << 8 | (i + j < bytes.size() ? bytes.get(i + j) : 0);
            }
            x.feed(n[0], n[1], n[2], n[3], n[4]);
        }
        x.end(bytes.size());
    }

    /** What a new series of room 200 answers when these bytes come. */
    static int taken(List<Integer> bytes) {
        SeriesPress x = begun(200);
        tape(x, bytes);
        return x.takes(0);
    }

    /** Series 0 of room 200 with these bytes as its block 0, which came otherwise if they are broken. */
    static SeriesPress holding(List<Integer> bytes) {
        SeriesPress x = begun(200);
        tape(x, soundOf(bytes.size()));
        x.takes(0);
        become(x, 0, bytes);
        return x;
    }

    /** A block of series 0 becomes these bytes of the same length. */
    static void become(SeriesPress x, int block, List<Integer> bytes) {
        for (int i = 0; i < bytes.size(); i++) {
            x.damage(0, block, i, bytes.get(i));
        }
    }

    static List<Integer> bytesOf(SeriesPress x, int series, int block) {
        List<Integer> bytes = new ArrayList<>();
        for (int i = 0; i < x.block(series, block, 3); i++) {
            bytes.add(x.octet(series, block, i));
        }
        return bytes;
    }

    static void makeCheckRight(SeriesPress x, int block) {
        List<Integer> bytes = bytesOf(x, 0, block);
        int behind = bytes.size() - 1;
        x.damage(0, block, behind, checkOf(bytes.subList(0, behind)));
    }
}
