import java.util.ArrayList;
import java.util.List;

/** For each promise of the document: ordinary calls, the edges that it names, and wrong calls. */
public final class PromiseTest {
    static final int NONE = -1;
    static final long NO_NUMBER = 0x7ff8000000000000L;
    static final long INF = 0x7ff0000000000000L;
    static final long MINUS_INF = 0xfff0000000000000L;
    static final long MINUS_ZERO = Long.MIN_VALUE;
    static final long NAN = 0xfff0000000000001L;
    static final int MAX = 2000000000;
    static int wrong = 0;
    static int told = 0;

    static void due(String what, long got, long want) {
        told++;
        if (got != want) {
            wrong++;
            System.out.println(what + " answered " + got + ", due is " + want);
        }
    }

    static long d(double value) {
        return Double.doubleToRawLongBits(value);
    }

    static SeriesPress begun(int room) {
        SeriesPress x = new SeriesPress();
        x.begins(0, room);
        return x;
    }

    /** Series 0 with stamps 10, 20, 30, .. and these values. */
    static SeriesPress with(double... values) {
        SeriesPress x = begun(200);
        for (int i = 0; i < values.length; i++) {
            x.add(0, 10 + 10 * i, d(values[i]));
        }
        return x;
    }

    /** Ten points 0, 1, 2 .. in series 0, of which each block of 24 bytes holds one. */
    static SeriesPress single(int points) {
        SeriesPress x = begun(24);
        for (int i = 0; i < points; i++) {
            x.add(0, 1000000 * i, i % 2 == 0 ? 1 : -1);
        }
        return x;
    }

    static String low(long number, int width) {
        StringBuilder b = new StringBuilder();
        for (int i = width - 1; i >= 0; i--) {
            b.append(number >> i & 1);
        }
        return b.toString();
    }

    /** A sealed block of these bits behind the head, filled up, with a right check. */
    static List<Integer> sealed(long stamp, long value, int points, String bits) {
        StringBuilder all = new StringBuilder(low(stamp, 32) + low(value, 64) + low(points, 16) + bits.replace(" ", ""));
        while (all.length() % 8 != 0) {
            all.append('0');
        }
        List<Integer> bytes = new ArrayList<>();
        for (int i = 0; i < all.length(); i += 8) {
            bytes.add(Integer.parseInt(all.substring(i, i + 8), 2));
        }
        return checked(bytes);
    }

    static List<Integer> checked(List<Integer> ahead) {
        List<Integer> bytes = new ArrayList<>(ahead);
        int check = 7;
        for (int b : ahead) {
            check = (check * 31 + b) % 251;
        }
        bytes.add(check);
        return bytes;
    }

    static void tape(SeriesPress x, List<Integer> bytes) {
        x.end(0);
        for (int i = 0; i < bytes.size(); i += 20) {
            int[] n = new int[5];
            for (int j = 0; j < 20; j++) {
                n[j / 4] = n[j / 4] << 8 | (i + j < bytes.size() ? bytes.get(i + j) : 0);
            }
            x.feed(n[0], n[1], n[2], n[3], n[4]);
        }
        x.end(bytes.size());
    }

    /** What a new series of room 200 says of a tape. */
    static int taken(long stamp, long value, int points, String bits) {
        SeriesPress x = begun(200);
        tape(x, sealed(stamp, value, points, bits));
        return x.takes(0);
    }

    /** A block of series 0 becomes these bytes of the same length. */
    static void become(SeriesPress x, int block, List<Integer> bytes) {
        for (int i = 0; i < bytes.size(); i++) {
            x.damage(0, block, i, bytes.get(i));
        }
    }

    static void makeCheckRight(SeriesPress x, int block) {
        int n = x.block(0, block, 3);
        int check = 7;
        for (int i = 0; i < n - 1; i++) {
            check = (check * 31 + x.octet(0, block, i)) % 251;
        }
        x.damage(0, block, n - 1, check);
    }

    public static void main(String[] args) {
        beginning();
        adding();
        classes();
        windows();
        lateness();
        wouldTake();
        merging();
        counting();
        blocks();
        octets();
        faults();
        formFaults();
        damaging();
        finding();
        nearestAndSince();
        pointByPoint();
        spans();
        values();
        sums();
        aboveAndLeast();
        waysAndWindow();
        gapsAndRows();
        twoSeries();
        bestRoom();
        repacking();
        thinning();
        cutting();
        joining();
        rounding();
        dearestPoint();
        whereabouts();
        copying();
        mending();
        sealing();
        dropping();
        passing();
        areas();
        feeding();
        taking();
        fullest();
        System.out.println(wrong == 0 ? "all " + told + " answers are as due" : wrong + " answers are not as due");
        if (wrong != 0) {
            System.exit(1);
        }
    }

    static void beginning() {
        due("1: constant NONE", SeriesPress.NONE, -1);
        due("1: constant NO_NUMBER", SeriesPress.NO_NUMBER, NO_NUMBER);
        SeriesPress x = new SeriesPress();
        for (int s = -1; s <= 4; s++) {
            due("1: count of none " + s, x.count(s, 2), -2);
        }
        due("2: series -1", x.begins(-1, 24), -2);
        due("2: series 4", x.begins(4, 24), -2);
        due("2: room 23", x.begins(0, 23), -2);
        due("2: room 201", x.begins(0, 201), -2);
        due("2: still none", x.count(0, 0), -2);
        due("2: room 24", x.begins(0, 24), 0);
        due("2: room 200", x.begins(3, 200), 0);
        due("2: its room", x.count(3, 0), 200);
        x.add(3, 5, 7);
        x.late(3, 4, 7);
        due("2: again", x.begins(3, 100), 0);
        due("2: another room", x.count(3, 0), 100);
        due("2: no points", x.count(3, 6), 0);
        due("2: no late ones", x.count(3, 3), 0);
        due("2: no blocks", x.count(3, 2), 0);
        due("2: no last", x.count(3, 7), NONE);
        x.add(3, 5, 7);
        due("2: refused", x.begins(3, 20), -2);
        due("2: nothing happened", x.count(3, 6), 1);
    }

    static void adding() {
        SeriesPress x = begun(24);
        due("3: none such", x.add(1, 0, 0), -2);
        due("3: stamp -1", x.add(0, -1, 0), -2);
        due("3: stamp above all", x.add(0, MAX + 1, 0), -2);
        due("3: first", x.add(0, 0, 0), 0);
        due("3: not above", x.add(0, 0, 0), -5);
        due("3: second in it", x.add(0, 1, 0), 0);
        // 10 bits there, 9 bytes of room behind the head: 72 bits.
        due("3: 78 bits more are too many", x.add(0, 2, MINUS_ZERO | 1), 1);
        SeriesPress y = begun(24);
        y.add(0, 0, 0);
        y.add(0, 1, 0);
        // 1 + 2 + 11 + 48 = 62 bits: 72 in all, which is 9 bytes.
        due("3: fits to the byte", y.add(0, 2, 0x800000000001L << 4), 0);
        due("3: full to the byte", y.block(0, 0, 3), 23);
        due("3: two bits more are too many", y.add(0, 3, 0x800000000001L << 4), 1);
        due("3: sealed then", y.block(0, 0, 5), 1);
        due("3: with a check", y.block(0, 0, 3), 24);
        SeriesPress z = single(16);
        due("3: sixteen blocks", z.count(0, 2), 16);
        due("3: no 17th", z.add(0, 16000000, 1), -4);
        due("3: the last stays open", z.block(0, 15, 5), 0);
        due("3: -5 ahead of -4", z.add(0, 15000000, 1), -5);
        due("3: the open one takes what fits", z.add(0, 15000001, -1), 15);
        due("3: stamp 2000000000, too wide", z.add(0, MAX, 1), -4);
        due("3: stamp 2000000000", z.add(0, MAX, -1), 15);
    }

    static void classes() {
        int[][] edges = {{0, 1}, {1, 9}, {64, 9}, {-63, 9}, {65, 12}, {-64, 12}, {256, 12}, {-255, 12}, {257, 16},
            {-256, 16}, {2048, 16}, {-2047, 16}, {2049, 36}, {-2048, 36}, {1000000000, 36}, {-90000, 36}};
        for (int[] e : edges) {
            SeriesPress x = begun(200);
            x.add(0, 5, 3);
            x.add(0, 100005, 3);
            due("5: a second difference of " + e[0], x.would(0, 200005 + e[0], 3), e[1] + 1);
        }
        SeriesPress x = begun(200);
        x.add(0, 0, 0);
        due("5: second point, 64 behind", x.would(0, 64, 0), 10);
        due("5: second point, 65 behind", x.would(0, 65, 0), 13);
        due("5: second point, as far as can be", x.would(0, MAX, 0), 37);
        SeriesPress y = begun(200);
        y.add(0, 0, 0);
        y.add(0, 100, 0);
        y.add(0, 137, 0);
        // 110 + 001100100, 0 | 10 + 1000001 (-63), 0
        due("9: class 2 and 1, byte 14", y.octet(0, 0, 14), 0b11000110);
        due("9: class 2 and 1, byte 15", y.octet(0, 0, 15), 0b01000101);
        due("9: class 2 and 1, byte 16", y.octet(0, 0, 16), 0b00000100);
        due("8: their bits", y.block(0, 0, 4), 23);
        SeriesPress z = begun(200);
        z.add(0, 0, 0);
        z.add(0, 2048, 0);
        z.add(0, 2049, 0);
        // 1110 100000000000, 0 | 1110 + 100000000001 (-2047), 0
        due("9: class 3, byte 14", z.octet(0, 0, 14), 0b11101000);
        due("9: class 3, byte 15", z.octet(0, 0, 15), 0b00000000);
        due("9: class 3, byte 16", z.octet(0, 0, 16), 0b01110100);
        due("9: class 3, byte 17", z.octet(0, 0, 17), 0b00000000);
        due("9: class 3, byte 18", z.octet(0, 0, 18), 0b10000000);
        SeriesPress w = begun(200);
        w.add(0, 0, 0);
        w.add(0, 0x12345678, 0);
        due("9: class 4, byte 14", w.octet(0, 0, 14), 0xf1);
        due("9: class 4, byte 15", w.octet(0, 0, 15), 0x23);
        due("9: class 4, byte 18", w.octet(0, 0, 18), 0x80);
    }

    static void windows() {
        SeriesPress x = begun(200);
        x.add(0, 0, 0);
        x.add(0, 1, 0);
        due("5: anew, 1 bit", x.would(0, 2, 1L << 40), 1 + 2 + 11 + 1);
        due("5: anew, 64 bits", x.would(0, 2, 1L << 63 | 1), 1 + 2 + 11 + 64);
        due("5: more than 31 zeros ahead", x.would(0, 2, 1), 1 + 2 + 11 + 33);
        x.add(0, 2, 0xfffL << 20);
        // Window: 32 zeros ahead, of which 31 are told; 20 behind; 13 bits are left.
        due("20: ahead, 31 at most", x.window(0, 0), 31);
        due("20: behind", x.window(0, 1), 20);
        due("5: two bits, eleven fewer: window", x.would(0, 3, 0xfffL << 20 ^ 3L << 20), 1 + 2 + 13);
        due("5: one bit, twelve fewer: anew", x.would(0, 3, 0xfffL << 20 ^ 1L << 20), 1 + 2 + 11 + 13);
        due("5: one bit in the middle, twelve fewer", x.would(0, 3, 0xfffL << 20 ^ 1L << 25), 1 + 2 + 11 + 8);
        due("5: behind the window", x.would(0, 3, 0xfffL << 20 ^ 0x7ffL << 19), 1 + 2 + 11 + 14);
        due("5: ahead of the window", x.would(0, 3, 0xfffL << 20 ^ 0xfffL << 22), 1 + 2 + 11 + 12);
        due("5: the same", x.would(0, 3, 0xfffL << 20), 2);
        x.add(0, 3, 0);
        due("20: by the window it stays", x.window(0, 1), 20);
        x.add(0, 4, 0xfffL << 22);
        due("20: another window", x.window(0, 0), 30);
        due("20: another window, behind", x.window(0, 1), 22);
        due("20: what -1", x.window(0, -1), -2);
        due("20: what 2", x.window(0, 2), -2);
        due("20: none such", x.window(1, 0), -2);
        x.seals(0);
        due("20: none is open", x.window(0, 0), NONE);
        x.add(0, 5, 0);
        due("20: none at first", x.window(0, 1), NONE);
        x.add(0, 6, 0);
        due("20: none yet", x.window(0, 0), NONE);
        x.add(0, 7, MINUS_ZERO | 1);
        due("20: nothing left out ahead", x.window(0, 0), 0);
        due("20: nothing left out behind", x.window(0, 1), 0);
        // 10 0000001 0 | 0 11 00000 111111 1000..
        due("9: a value anew, byte 15", x.octet(0, 1, 15), 0b10011000);
        due("9: a value anew, byte 16", x.octet(0, 1, 16), 0b00111111);
        due("9: a value anew, byte 17", x.octet(0, 1, 17), 0b10000000);
        due("9: a value anew, byte 24", x.octet(0, 1, 24), 0b00000001);
        due("8: its bits", x.block(0, 1, 4), 10 + 78);
    }

    static void lateness() {
        SeriesPress x = begun(24);
        due("4: none such", x.late(1, 0, 0), -2);
        due("4: there is no last", x.late(0, 0, 0), -5);
        x.add(0, 100, 1);
        due("4: stamp -1", x.late(0, -1, 0), -2);
        due("4: stamp above all", x.late(0, MAX + 1, 0), -2);
        due("4: above last", x.late(0, 101, 0), -5);
        due("4: in place of one in a block", x.late(0, 100, 2), 1);
        due("4: it stands there", x.at(0, 100), 2);
        due("4: a second", x.late(0, 50, 3), 2);
        due("4: in place of a late one", x.late(0, 50, 4), 2);
        due("4: it stands there too", x.at(0, 50), 4);
        for (int i = 0; i < 18; i++) {
            due("4: one more", x.late(0, i, 4), 3 + i);
        }
        due("4: no 21st", x.late(0, 60, 4), -4);
        due("4: in place of one, still", x.late(0, 17, 5), 20);
        due("4: -5 ahead of -4", x.late(0, 200, 5), -5);
        due("4: points", x.count(0, 6), 20);
        due("4: last stays", x.count(0, 7), 100);
        x.drops(0, 0);
        due("4: last is there without blocks", x.late(0, 100, 9), 20);
    }

    static void wouldTake() {
        SeriesPress x = begun(24);
        due("5: none such", x.would(1, 0, 0), -2);
        due("5: stamp -1", x.would(0, -1, 0), -2);
        due("5: stamp above all", x.would(0, MAX + 1, 0), -2);
        due("5: a head", x.would(0, 0, 0), 0);
        x.add(0, 100, 0);
        due("5: not above last", x.would(0, 100, 0), -5);
        due("5: nothing came", x.count(0, 6), 1);
        due("5: does not fit", x.would(0, 101, 1L << 63 | 1), 0);
        due("5: a bit too many", x.would(0, 101, 1L << 63 | 1L << 13), 0);
        due("5: fits to the bit", x.would(0, 101, 1L << 63 | 1L << 14), 72);
        x.seals(0);
        due("5: a head behind a sealed one", x.would(0, 101, 0), 0);
        SeriesPress z = single(16);
        due("5: where there would be a 17th", z.would(0, 16000000, 1), 0);
    }

    static void merging() {
        SeriesPress x = begun(24);
        due("6: none such", x.merge(1), -2);
        due("6: without points", x.merge(0), 0);
        for (int i = 0; i < 6; i++) {
            x.add(0, 10 * i, d(i));
            x.seals(0);
        }
        due("6: six blocks", x.count(0, 2), 6);
        x.late(0, 5, d(1));
        x.late(0, 10, d(9));
        int blocks = x.merge(0);
        due("6: as many as there are", x.count(0, 2), blocks);
        due("6: fewer than six", blocks < 6 ? 1 : 0, 1);
        due("6: the last is open", x.block(0, blocks - 1, 5), 0);
        due("6: the first is sealed", x.block(0, 0, 5), 1);
        due("6: none is late", x.count(0, 3), 0);
        due("6: points of blocks", x.count(0, 1), 7);
        due("6: a late one among them", x.at(0, 5), d(1));
        due("6: a late one in place", x.at(0, 10), d(9));
        due("6: last", x.count(0, 7), 50);
        x.drops(0, blocks - 1);
        x.merge(0);
        due("6: last is that of the last point", x.count(0, 7), x.point(0, x.count(0, 6) - 1, 0));
        x.seals(0);
        x.damage(0, 0, 13, 200);
        due("6: a block is broken", x.merge(0), -6);
        SeriesPress z = single(16);
        z.late(0, 1, MINUS_ZERO);
        due("6: no 17th block", z.merge(0), -4);
        due("6: nothing happened", z.count(0, 3), 1);
        due("6: blocks stay", z.count(0, 2), 16);
    }

    static void counting() {
        SeriesPress x = begun(30);
        due("7: none such", x.count(1, 0), -2);
        due("7: what -1", x.count(0, -1), -2);
        due("7: what 8", x.count(0, 8), -2);
        x.add(0, 0, 5);
        x.add(0, 1, 5);
        x.seals(0);
        x.add(0, 2, 5);
        x.seals(0);
        x.add(0, 3, 5);
        x.late(0, 1, 6);
        x.late(0, 2, 6);
        due("7: room", x.count(0, 0), 30);
        due("7: points of sound blocks", x.count(0, 1), 4);
        due("7: blocks", x.count(0, 2), 3);
        due("7: late ones", x.count(0, 3), 2);
        due("7: bytes", x.count(0, 4), 17 + 15 + 14);
        due("7: broken ones", x.count(0, 5), 0);
        due("7: points", x.count(0, 6), 4);
        due("7: last", x.count(0, 7), 3);
        x.damage(0, 1, 0, 1);
        due("7: points of sound blocks alone", x.count(0, 1), 3);
        due("7: bytes of all", x.count(0, 4), 46);
        due("7: the second is broken", x.count(0, 5), 2);
        due("7: its point is late still", x.count(0, 6), 4);
        x.damage(0, 0, 0, 1);
        due("7: two are broken", x.count(0, 5), 3);
        due("7: two late ones, an open one's", x.count(0, 6), 3);
        due("7: points of the open one", x.count(0, 1), 1);
    }

    static void blocks() {
        SeriesPress x = begun(30);
        x.add(0, 7, 5);
        x.add(0, 9, 5);
        for (int b = -1; b <= 1; b += 2) {
            for (int what = 0; what <= 5; what++) {
                due("8: no block " + b, x.block(0, b, what), -2);
            }
        }
        due("8: none such", x.block(1, 0, 0), -2);
        due("8: what -1", x.block(0, 0, -1), -2);
        due("8: what 6", x.block(0, 0, 6), -2);
        due("8: first", x.block(0, 0, 0), 7);
        due("8: last", x.block(0, 0, 1), 9);
        due("8: points", x.block(0, 0, 2), 2);
        due("8: bytes", x.block(0, 0, 3), 16);
        due("8: bits", x.block(0, 0, 4), 10);
        due("8: open", x.block(0, 0, 5), 0);
        x.late(0, 7, 1);
        x.late(0, 8, 1);
        due("8: points, late ones aside", x.block(0, 0, 2), 2);
        x.seals(0);
        due("8: bytes with a check", x.block(0, 0, 3), 17);
        due("8: bits without it", x.block(0, 0, 4), 10);
        due("8: sealed", x.block(0, 0, 5), 1);
        x.damage(0, 0, 3, 8);
        for (int what = 0; what <= 5; what++) {
            due("8: broken, what " + what, x.block(0, 0, what), what == 3 ? 17 : what == 5 ? 1 : -6);
        }
        due("8: broken, what 6", x.block(0, 0, 6), -2);
    }

    static void octets() {
        SeriesPress x = begun(30);
        x.add(0, 0x01020304, 0x05060708090a0b0cL);
        for (int i = 0; i < 12; i++) {
            due("9: byte " + i, x.octet(0, 0, i), i + 1);
        }
        due("9: how many, high", x.octet(0, 0, 12), 0);
        due("9: how many, low", x.octet(0, 0, 13), 1);
        due("9: an open one is without a check", x.octet(0, 0, 14), NONE);
        due("9: byte -1", x.octet(0, 0, -1), NONE);
        due("9: no block", x.octet(0, 1, 0), -2);
        due("9: no block -1", x.octet(0, -1, -1), -2);
        due("9: none such", x.octet(1, 0, 0), -2);
        x.add(0, 0x01020305, 0x05060708090a0b0cL);
        due("9: two then", x.octet(0, 0, 13), 2);
        x.begins(0, 30);
        x.add(0, 0, -1);
        due("9: told as 0 .. 255", x.octet(0, 0, 4), 255);
        x.begins(0, 30);
        x.add(0, 0, 0);
        x.seals(0);
        due("9: the check", x.octet(0, 0, 14), 219);
        due("9: behind the check", x.octet(0, 0, 15), NONE);
    }

    static void faults() {
        SeriesPress x = begun(30);
        x.add(0, 7, 5);
        due("10: none such", x.fault(1, 0, 0), -2);
        due("10: no block", x.fault(0, 1, 0), -2);
        due("10: no block -1", x.fault(0, -1, 0), -2);
        due("10: what -1", x.fault(0, 0, -1), -2);
        due("10: what 2", x.fault(0, 0, 2), -2);
        due("10: open", x.fault(0, 0, 0), 0);
        due("10: open, no place", x.fault(0, 0, 1), NONE);
        x.add(0, 9, 5);
        x.seals(0);
        due("10: sound", x.fault(0, 0, 0), 0);
        due("10: sound, no place", x.fault(0, 0, 1), NONE);
        String two = "10 0000010 0";
        faulty(x, sealed(7, 6, 2, two), 0, NONE);
        List<Integer> check = sealed(7, 5, 2, two);
        check.set(16, check.get(16) + 1);
        faulty(x, check, 1, NONE);
        faulty(x, sealed(7, 5, 0, two), 5, 0);
        faulty(x, sealed(MAX + 1, 5, 0, two), 5, 0);
        faulty(x, sealed(7, 5, 4, two), 7, 0);
        faulty(x, sealed(7, 5, 3, two + " 111111"), 2, 10);
        faulty(x, sealed(7, 5, 300, two), 2, 16);
        faulty(x, sealed(MAX + 1L, 5, 2, two), 3, 0);
        faulty(x, sealed(0xffffffffL, 5, 9, two), 3, 0);
        faulty(x, sealed(MAX, 5, 2, two), 3, 0);
        faulty(x, sealed(7, 5, 2, "0 0 00000000"), 3, 0);
        faulty(x, sealed(7, 5, 2, "10 1111111 0"), 3, 0);
        faulty(x, sealed(7, 5, 1, two), 6, 0);
        faulty(x, sealed(7, 5, 1, "0 00000000"), 6, 0);
        faulty(x, sealed(7, 5, 2, two + "000001"), 6, 10);
        faulty(x, sealed(7, 5, 3, two + "00 0001"), 6, 12);
        faulty(x, sealed(7, 5, 3, two + "00"), 7, 0);
        faulty(x, sealed(8, 5, 2, two), 7, 0);
        faulty(x, sealed(8, 5, 2, "10 0000001 0"), 7, 0);
        faulty(x, sealed(7, 5, 2, two), 0, NONE);
        x.begins(0, 30);
        x.add(0, 7, 5);
        x.add(0, 9, 5);
        x.add(0, 12, 5);
        x.seals(0);
        faulty(x, sealed(7, 5, 3, two + "10 0000001 0"), 0, NONE);
        faulty(x, sealed(7, 5, 3, two + "10 1111110 0"), 3, 10);
        faulty(x, sealed(7, 5, 3, two + "10 0000000 0"), 4, 10);
        faulty(x, sealed(7, 5, 3, two + "10 0000001 1 1 00"), 2, 10);
        faulty(x, sealed(7, 5, 3, two + "10 0000001 1 0"), 4, 10);
        faulty(x, sealed(7, 5, 3, two + "10 1111110 1 0"), 3, 10);
        faulty(x, sealed(7, 5, 3, two + "10 0000001 0 1"), 6, 20);
        faulty(x, sealed(7, 5, 2, "10 0000001 1 0 0000000000000"), 4, 0);
        due("10: 5 by tape", taken(7, 5, 0, two), -15);
        due("10: 3 on the last stamp", taken(MAX, 5, 2, "10 0000001 0"), -13);
        due("10: none on the last stamp", taken(MAX - 1, 5, 2, "10 0000001 0"), 0);
        due("10: 3 by a great second", taken(0, 5, 2, "1111" + low(0x80000000L, 32) + "0"), -13);
        due("10: 2 ahead of 3", taken(0, 5, 2, "0 1 1 00000"), -12);
        due("10: 3 ahead of 4", taken(0, 5, 2, "10 0000000 0"), -13);
        due("10: 6, seven 0s are fine", taken(0, 5, 2, "10 0000001 1 1 00000 000110 1000001"), 0);
        due("10: 6, eight 0s", taken(0, 5, 2, "10 0000001 0 00000000 000000"), -16);
    }

    static void faulty(SeriesPress x, List<Integer> bytes, int fault, int place) {
        become(x, 0, bytes);
        due("10: fault of " + bytes, x.fault(0, 0, 0), fault);
        due("10: place of " + bytes, x.fault(0, 0, 1), place);
        due("7: broken as bits", x.count(0, 5), fault == 0 ? 0 : 1);
    }

    static void formFaults() {
        String one = "10 0000001";
        due("10: class 0 as 1", taken(0, 5, 3, one + "0 10 0000000 0"), -14);
        due("10: class 1 as 2", taken(0, 5, 2, "110 001000000 0"), -14);
        due("10: class 2", taken(0, 5, 2, "110 001000001 0"), 0);
        due("10: class 2 as 3", taken(0, 5, 2, "1110 000100000000 0"), -14);
        due("10: class 3", taken(0, 5, 2, "1110 000100000001 0"), 0);
        due("10: class 3 as 4", taken(0, 5, 2, "1111" + low(2048, 32) + "0"), -14);
        due("10: class 4", taken(0, 5, 2, "1111" + low(2049, 32) + "0"), 0);
        due("10: class 1, lowest", taken(0, 5, 3, "110 001000001 0 10 1000001 0"), 0);
        due("10: anew", taken(0, 5, 2, one + "11 00001 000001 11"), 0);
        due("10: anew, begins with 0", taken(0, 5, 2, one + "11 00001 000001 01"), -14);
        due("10: anew, ends in 0", taken(0, 5, 2, one + "11 00001 000001 10"), -14);
        due("10: anew, 31 zeros and more", taken(0, 5, 2, one + "11 11111 000010 001"), 0);
        due("10: anew, X 0", taken(0, 5, 2, one + "11 11111 000010 000"), -14);
        due("10: anew, more than 64 bits", taken(0, 5, 2, one + "11 11111 100001" + "1".repeat(34)), -14);
        due("10: anew, 64 bits", taken(0, 5, 2, one + "11 00000 111111" + "1".repeat(64)), 0);
        due("10: anew, more than 64 bits, and they end", taken(0, 5, 2, one + "11 11111 111111" + "1".repeat(40)), -12);
        due("10: window ahead of any", taken(0, 5, 2, one + "10 00000"), -14);
        due("10: window ahead of any leaves no bits", taken(0, 5, 2, one + "10"), -14);
        due("10: window ahead of any, to the byte", taken(0, 5, 3, "110 001000001 0 0 10"), -14);
        String window = one + "11 00100 001011 100000000001";
        due("10: by window", taken(0, 5, 3, window + "0 10 000000000011"), 0);
        due("10: by window, X 0", taken(0, 5, 3, window + "0 10 000000000000"), -14);
        due("10: by window, 11 fewer", taken(0, 5, 3, window + "0 10 000000000001"), 0);
        due("10: anew though by window", taken(0, 5, 3, window + "0 11 00101 000001 11"), -14);
        due("10: anew, the window's own", taken(0, 5, 3, window + "0 11 00100 001011 100000000001"), -14);
        due("10: anew ahead of the window", taken(0, 5, 3, window + "0 11 00011 001011 100000000001"), 0);
        String wide = one + "11 00100 001100 1000000000001";
        due("10: by window, 12 fewer", taken(0, 5, 3, wide + "0 10 0000000000001"), -14);
        due("10: anew, 12 fewer", taken(0, 5, 3, wide + "0 11 10000 000000 1"), 0);
        SeriesPress x = begun(200);
        tape(x, sealed(0, 5, 3, wide + "0 10 0000000000011"));
        due("45: it comes", x.takes(0), 0);
        due("45: its bits", x.at(0, 2), 5L ^ 0b1000000000001L << 47 ^ 0b11L << 47);
    }

    static void damaging() {
        SeriesPress x = begun(30);
        x.add(0, 7, 5);
        due("11: open", x.damage(0, 0, 0, 0), -5);
        due("11: open, not so many bytes", x.damage(0, 0, 14, 0), -2);
        x.seals(0);
        due("11: none such", x.damage(1, 0, 0, 0), -2);
        due("11: no block", x.damage(0, 1, 0, 0), -2);
        due("11: no block -1", x.damage(0, -1, 0, 0), -2);
        due("11: byte -1", x.damage(0, 0, -1, 0), -2);
        due("11: byte 15", x.damage(0, 0, 15, 0), -2);
        due("11: to -1", x.damage(0, 0, 0, -1), -2);
        due("11: to 256", x.damage(0, 0, 0, 256), -2);
        due("11: it was 7", x.damage(0, 0, 3, 255), 7);
        due("11: it is 255", x.octet(0, 0, 3), 255);
        due("11: it was 255", x.damage(0, 0, 3, 7), 255);
        due("11: sound again", x.fault(0, 0, 0), 0);
        x.damage(0, 0, 11, 6);
        makeCheckRight(x, 0);
        due("11: sound with another value", x.at(0, 7), 6);
    }

    static void finding() {
        SeriesPress x = begun(24);
        due("12: none such", x.has(1, 0), -2);
        due("12: stamp -1", x.has(0, -1), -2);
        due("12: stamp above all", x.has(0, MAX + 1), -2);
        due("12: without points", x.has(0, 0), 0);
        due("13: none such", x.at(1, 0), 0);
        due("13: stamp -1", x.at(0, -1), 0);
        x.add(0, 0, 5);
        x.seals(0);
        x.add(0, 10, 6);
        x.add(0, MAX, 7);
        due("12: there", x.has(0, 0), 1);
        due("12: not there", x.has(0, 1), 0);
        due("12: last of all", x.has(0, MAX), 1);
        due("13: there", x.at(0, 0), 5);
        due("13: in the open one", x.at(0, 10), 6);
        due("13: last of all", x.at(0, MAX), 7);
        due("13: not there", x.at(0, 11), 0);
        x.late(0, 0, -9);
        due("13: late", x.at(0, 0), -9);
        x.damage(0, 0, 0, 9);
        due("12: late in a broken one", x.has(0, 0), 1);
        x.begins(0, 24);
        x.add(0, 0, 5);
        x.seals(0);
        x.damage(0, 0, 0, 9);
        due("12: in a broken one", x.has(0, 0), 0);
        due("13: in a broken one", x.at(0, 0), 0);
    }

    static void nearestAndSince() {
        SeriesPress x = begun(24);
        due("14: no points", x.nearest(0, 5), NONE);
        due("41: no points", x.since(0, 5), NONE);
        due("14: none such", x.nearest(1, 5), -2);
        due("41: none such", x.since(1, 5), -2);
        x.add(0, 10, 0);
        due("14: one point, behind", x.nearest(0, 0), 10);
        due("14: one point, ahead", x.nearest(0, 11), 10);
        x.seals(0);
        x.add(0, 20, 0);
        x.add(0, MAX, 0);
        int[][] rows = {{0, 10, NONE}, {9, 10, NONE}, {10, 10, 10}, {14, 10, 10}, {15, 10, 10}, {16, 20, 10},
            {20, 20, 20}, {1000000010, 20, 20}, {1000000011, MAX, 20}, {MAX, MAX, MAX}};
        for (int[] r : rows) {
            due("14: nearest to " + r[0], x.nearest(0, r[0]), r[1]);
            due("41: since " + r[0], x.since(0, r[0]), r[2]);
        }
        due("14: stamp -1", x.nearest(0, -1), -2);
        due("14: stamp above all", x.nearest(0, MAX + 1), -2);
        due("41: stamp -1", x.since(0, -1), -2);
        due("41: stamp above all", x.since(0, MAX + 1), -2);
        x.late(0, 13, 0);
        due("14: a late one", x.nearest(0, 16), 13);
        due("41: a late one", x.since(0, 16), 13);
        x.damage(0, 0, 0, 9);
        due("14: a broken one aside", x.nearest(0, 0), 13);
        due("41: a broken one aside", x.since(0, 12), NONE);
    }

    static void pointByPoint() {
        SeriesPress x = begun(24);
        due("15: none such", x.point(1, 0, 0), NONE);
        due("15: no points", x.point(0, 0, 0), NONE);
        x.add(0, 10, -7);
        x.seals(0);
        x.add(0, 20, 8);
        x.late(0, 15, 9);
        x.late(0, 5, 4);
        long[][] rows = {{5, 4}, {10, -7}, {15, 9}, {20, 8}};
        for (int i = 0; i < 4; i++) {
            due("15: stamp " + i, x.point(0, i, 0), rows[i][0]);
            due("15: bits " + i, x.point(0, i, 1), rows[i][1]);
        }
        due("15: not so many", x.point(0, 4, 1), NONE);
        due("15: point -1", x.point(0, -1, 0), NONE);
        due("15: what 2", x.point(0, 0, 2), NONE);
        due("15: what -1", x.point(0, 0, -1), NONE);
    }

    static void spans() {
        SeriesPress x = begun(60);
        long[] values = {d(1), NAN, MINUS_ZERO, 0, INF, MINUS_INF, NO_NUMBER, d(2)};
        for (int i = 0; i < 8; i++) {
            x.add(0, 10 * i, values[i]);
            if (i % 2 == 1) {
                x.seals(0);
            }
        }
        due("16: none such", x.span(1, 0, 1, 0), -2);
        due("16: from above to", x.span(0, 1, 0, 0), -2);
        due("16: what -1", x.span(0, 0, 1, -1), -2);
        due("16: what 7", x.span(0, 0, 1, 7), -2);
        int[] all = {8, 4, 0, 70, 2, 1, 2};
        for (int what = 0; what < 7; what++) {
            due("16: all, what " + what, x.span(0, Integer.MIN_VALUE, Integer.MAX_VALUE, what), all[what]);
        }
        due("16: on its edges", x.span(0, 10, 30, 0), 3);
        due("16: no number first", x.span(0, 10, 30, 4), 1);
        due("16: -0.0 first", x.span(0, 20, 30, 5), 1);
        due("16: infinite first", x.span(0, 40, 49, 6), 1);
        due("16: infinite last", x.span(0, 45, 50, 6), 1);
        due("16: within", x.span(0, 11, 29, 0), 1);
        due("16: opened, the last of one and the first of the next", x.span(0, 10, 20, 1), 2);
        due("16: opened between two", x.span(0, 11, 19, 1), 0);
        due("16: opened within one", x.span(0, 1, 9, 1), 1);
        due("16: no points there", x.span(0, 1, 9, 0), 0);
        due("16: no first", x.span(0, 1, 9, 2), NONE);
        due("16: no last", x.span(0, 1, 9, 3), NONE);
        due("16: ahead of all", x.span(0, -9, -1, 1), 0);
        due("16: behind all", x.span(0, 71, Integer.MAX_VALUE, 1), 0);
        due("16: first", x.span(0, 11, 59, 2), 20);
        due("16: last", x.span(0, 11, 59, 3), 50);
        x.late(0, 15, MINUS_ZERO);
        x.late(0, 40, NAN);
        due("16: with a late one", x.span(0, 11, 19, 0), 1);
        due("16: opened, late ones aside", x.span(0, 11, 19, 1), 0);
        due("16: a late -0.0", x.span(0, 0, 70, 5), 2);
        due("16: one infinite is covered", x.span(0, 0, 70, 6), 1);
        x.damage(0, 0, 0, 1);
        due("16: a broken one is not opened", x.span(0, 0, 70, 1), 3);
        due("16: nor counted", x.span(0, 0, 70, 0), 7);
    }

    static void values() {
        SeriesPress x = begun(200);
        long[] values = {NAN, MINUS_ZERO, d(3), 0, d(-2), d(3), INF, NO_NUMBER};
        for (int i = 0; i < 8; i++) {
            x.add(0, 10 * i, values[i]);
        }
        due("17: none such", x.value(1, 0, 70, 0), NO_NUMBER);
        due("17: from above to", x.value(0, 70, 0, 0), NO_NUMBER);
        due("17: what -1", x.value(0, 0, 70, -1), NO_NUMBER);
        due("17: what 5", x.value(0, 0, 70, 5), NO_NUMBER);
        due("17: first", x.value(0, 0, 70, 0), MINUS_ZERO);
        due("17: last", x.value(0, 0, 70, 1), INF);
        due("17: least", x.value(0, 0, 70, 2), d(-2));
        due("17: greatest", x.value(0, 0, 70, 3), INF);
        due("17: greatest, finite", x.value(0, 0, 59, 3), d(3));
        due("17: sum", x.value(0, 0, 70, 4), INF);
        due("17: sum, finite", x.value(0, 0, 59, 4), d(4));
        due("17: of like zeros the first is least", x.value(0, 0, 30, 2), MINUS_ZERO);
        due("17: of like zeros the first is least, the other", x.value(0, 30, 30, 2), 0);
        for (int what = 0; what < 5; what++) {
            due("17: no numbers, what " + what, x.value(0, 70, 70, what), NO_NUMBER);
            due("17: no points, what " + what, x.value(0, 71, 99, what), NO_NUMBER);
        }
        due("17: a sum begins with 0.0", x.value(0, 10, 10, 4), 0);
        SeriesPress y = with(0.0, -0.0);
        due("17: of like zeros the first is greatest", y.value(0, 10, 20, 3), 0);
        due("17: of like zeros the first", y.value(0, 10, 20, 2), 0);
        SeriesPress z = with(Double.POSITIVE_INFINITY, Double.NEGATIVE_INFINITY, 1.0);
        due("17: the sum is none", z.value(0, 10, 30, 4), NO_NUMBER);
        due("17: least is infinite", z.value(0, 10, 30, 2), MINUS_INF);
        SeriesPress w = with(Double.MAX_VALUE, Double.MAX_VALUE, Double.NEGATIVE_INFINITY);
        due("17: too great", w.value(0, 10, 20, 4), INF);
        due("17: and then none", w.value(0, 10, 30, 4), NO_NUMBER);
    }

    /** The numbers are reckoned without doubles in the class, so they are held against doubles here. */
    static void sums() {
        java.util.Random random = new java.util.Random(5);
        for (int n = 0; n < 200000; n++) {
            long a = someDouble(random);
            long b = random.nextInt(3) == 0 ? a ^ 1L << 63 ^ random.nextLong() >>> 10 + random.nextInt(54)
                    : someDouble(random);
            if (random.nextInt(3) == 0) {
                // Exponents side by side make ties and short sums.
                int e = (int) (a >>> 52 & 2047) + random.nextInt(120) - 60;
                b = b & 0x800fffffffffffffL | (long) Math.max(0, Math.min(2046, e)) << 52;
            }
            if (Double.isNaN(Double.longBitsToDouble(a)) || Double.isNaN(Double.longBitsToDouble(b))) {
                continue;
            }
            int far = 1 + (random.nextBoolean() ? random.nextInt(100) : random.nextInt(MAX - 1));
            heldAgainst(a, b, far);
        }
    }

    static final SeriesPress ADDER = new SeriesPress();

    static void heldAgainst(long a, long b, int far) {
        ADDER.begins(0, 200);
        ADDER.add(0, 0, a);
        ADDER.add(0, far, b);
        double x = Double.longBitsToDouble(a);
        double y = Double.longBitsToDouble(b);
        double sum = 0.0 + x + y;
        due("17: " + x + " + " + y, ADDER.value(0, 0, far, 4), Double.isNaN(sum) ? NO_NUMBER : d(sum));
        due("42: " + x + " * " + far, ADDER.area(0, 0, far), d(0.0 + x * far));
    }

    static long someDouble(java.util.Random random) {
        long bits = random.nextLong();
        switch (random.nextInt(8)) {
            case 0: return bits & 0x800fffffffffffffL;
            case 1: return bits & 0x801fffffffffffffL;
            case 2: return bits | 0x7fe0000000000000L;
            case 3: return bits & -1L << random.nextInt(64);
            case 4: return d(random.nextInt(2000) - 1000);
            case 5: return bits & 0xffe0000000000000L;
            case 6: return bits & 0x800fffffffffffffL | 0x3ff0000000000000L;
            default: return bits;
        }
    }

    static void aboveAndLeast() {
        SeriesPress x = begun(200);
        long[] values = {d(3), MINUS_ZERO, NAN, d(3), 0, d(-5), INF, MINUS_INF, d(1)};
        for (int i = 0; i < 9; i++) {
            x.add(0, 10 * i, values[i]);
        }
        due("18: none such", x.above(1, 0, 80, 0), -2);
        due("18: from above to", x.above(0, 1, 0, 0), -2);
        due("18: from above to, no number", x.above(0, 1, 0, NAN), -2);
        due("18: no number", x.above(0, 0, 80, NAN), NONE);
        due("18: above 0.0", x.above(0, 0, 80, 0), 4);
        due("18: above -0.0", x.above(0, 0, 80, MINUS_ZERO), 4);
        due("18: above -5", x.above(0, 0, 80, d(-5)), 6);
        due("18: above -infinite", x.above(0, 0, 80, MINUS_INF), 7);
        due("18: above infinite", x.above(0, 0, 80, INF), 0);
        due("18: within", x.above(0, 0, 30, d(2)), 2);
        due("18: no points", x.above(0, 1, 9, MINUS_INF), 0);
        long[] order = {MINUS_INF, d(-5), MINUS_ZERO, 0, d(1), d(3), d(3), INF};
        for (int k = 0; k < 8; k++) {
            due("39: least " + k, x.least(0, 0, 80, k), order[k]);
        }
        due("39: not so many", x.least(0, 0, 80, 8), NO_NUMBER);
        due("39: k -1", x.least(0, 0, 80, -1), NO_NUMBER);
        due("39: none such", x.least(1, 0, 80, 0), NO_NUMBER);
        due("39: from above to", x.least(0, 80, 0, 0), NO_NUMBER);
        due("39: within", x.least(0, 0, 40, 1), 0);
        SeriesPress y = with(0.0, -0.0);
        due("39: of like zeros the earlier", y.least(0, 0, 99, 0), 0);
        due("39: of like zeros the later", y.least(0, 0, 99, 1), MINUS_ZERO);
    }

    static void waysAndWindow() {
        SeriesPress x = begun(200);
        int[] stamps = {0, 1, 2, 100, 1000, 100000, 100001};
        long[] values = {0, 0, 0xf000, 0xe000, 0xe000, 0xffff, 0xffff};
        for (int i = 0; i < 7; i++) {
            x.add(0, stamps[i], values[i] << 30);
        }
        // Seconds: 1, 0, 97, 802, 98100, -98999; X: 0, f000, 1000, 0, 1fff, 0.
        int[] due = {1, 1, 1, 1, 2, 3, 1, 2};
        for (int what = 0; what < 8; what++) {
            due("19: what " + what, x.ways(0, what), due[what]);
        }
        due("19: what -1", x.ways(0, -1), -2);
        due("19: what 8", x.ways(0, 8), -2);
        due("19: none such", x.ways(1, 0), -2);
        x.add(0, 100002, (0xffffL ^ 0x1ffe) << 30);
        due("19: by the window", x.ways(0, 6), 2);
        x.seals(0);
        due("19: sealed", x.ways(0, 4), 2);
        x.add(0, 200000, 0);
        x.add(0, 300000, 0);
        due("19: heads aside", x.ways(0, 4), 3);
        x.damage(0, 0, 0, 1);
        due("19: a broken one aside", x.ways(0, 4), 1);
    }

    static void gapsAndRows() {
        SeriesPress x = begun(24);
        due("21: none such", x.gap(1, 0), -2);
        due("21: no points", x.gap(0, 0), NONE);
        x.add(0, 0, 5);
        due("21: one point", x.gap(0, 0), NONE);
        due("21: one point, where", x.gap(0, 1), NONE);
        x.seals(0);
        x.add(0, 10, 5);
        x.add(0, 15, 5);
        x.add(0, 25, 6);
        due("21: length", x.gap(0, 0), 10);
        due("21: the first of several", x.gap(0, 1), 0);
        x.late(0, 4, 5);
        due("21: a late one between", x.gap(0, 1), 15);
        due("21: what -1", x.gap(0, -1), -2);
        due("21: what 2", x.gap(0, 2), -2);
        due("22: what -1", x.row(0, -1), -2);
        due("22: what 2", x.row(0, 2), -2);
        due("22: none such", x.row(1, 0), -2);
        due("22: of the same bits", x.row(0, 0), 4);
        SeriesPress y = with(1, 2, 2, 3, 4, Double.NaN, 5, 6, -0.0, 0.0, 1);
        due("22: rising", y.row(0, 1), 3);
        due("22: zeros are not the same bits", with(0.0, -0.0).row(0, 0), 1);
        due("22: zeros are alike", with(0.0, -0.0).row(0, 1), 1);
        due("22: no numbers are of the same bits", with(Double.NaN, Double.NaN).row(0, 0), 2);
        due("22: without numbers", with(Double.NaN, Double.NaN).row(0, 1), 0);
        due("22: one number", with(Double.NaN, 5).row(0, 1), 1);
        due("22: over an infinite one", with(Double.NEGATIVE_INFINITY, -1, 5, Double.POSITIVE_INFINITY).row(0, 1), 4);
        due("22: no points", begun(24).row(0, 0), 0);
        due("22: no points rise", begun(24).row(0, 1), 0);
    }

    static void twoSeries() {
        SeriesPress x = with(1, 2, 3, 4);
        due("23: none such", x.both(0, 1, 0), -2);
        due("23: none such, first", x.both(1, 0, 0), -2);
        due("24: none such", x.differ(0, 1), -2);
        due("24: none such, first", x.differ(1, 0), -2);
        x.begins(1, 24);
        due("23: without points", x.both(0, 1, 0), 0);
        due("24: without points", x.differ(0, 1), 10);
        x.add(1, 10, d(1));
        x.add(1, 20, d(9));
        x.add(1, 25, d(3));
        x.add(1, 40, d(4));
        x.add(1, 50, d(4));
        due("23: stamps", x.both(0, 1, 0), 3);
        due("23: with the same bits", x.both(0, 1, 1), 2);
        due("23: the other way", x.both(1, 0, 1), 2);
        due("23: with itself", x.both(1, 1, 1), 5);
        due("23: what -1", x.both(0, 1, -1), -2);
        due("23: what 2", x.both(0, 1, 2), -2);
        due("24: other bits", x.differ(0, 1), 20);
        x.late(1, 20, d(2));
        due("24: in one alone", x.differ(0, 1), 25);
        due("24: in the other alone", x.differ(1, 0), 25);
        due("24: with itself", x.differ(0, 0), NONE);
        x.copy(0, 2);
        due("24: with its copy", x.differ(0, 2), NONE);
        x.add(2, 99, 0);
        due("24: longer by one", x.differ(0, 2), 99);
        due("23: no numbers may be the same", with(Double.NaN).both(0, 0, 1), 1);
    }

    static void bestRoom() {
        SeriesPress x = begun(200);
        due("25: none such", x.best(1), -2);
        due("25: without points", x.best(0), 24);
        x.add(0, 0, 0);
        due("25: one point", x.best(0), 24);
        for (int i = 1; i < 40; i++) {
            x.add(0, i, 0);
        }
        // 10 + 38 * 2 = 86 bits: 11 bytes, 25 with the head, 26 with a check.
        due("25: bytes in one block", x.count(0, 4), 25);
        due("25: the least that holds them", x.best(0), 26);
        x.late(0, 20, 1L << 63 | 1);
        due("25: late ones too", x.best(0) > 26 ? 1 : 0, 1);
        due("25: nothing happened", x.count(0, 3), 1);
        x.seals(0);
        x.damage(0, 0, 0, 1);
        due("25: a block is broken", x.best(0), -6);
        // 101 bits each, whose lowest is 0 already.
        SeriesPress y = begun(200);
        long mix = 1L << 63 | 2;
        int n = 0;
        for (int stamp = 0, far = 10000; y.add(0, stamp, n % 2 == 0 ? 0 : mix) >= 0; stamp += far, far += 10000) {
            n++;
        }
        due("25: sixteen blocks", y.count(0, 2), 16);
        due("25: they fit", y.best(0) > 24 ? 1 : 0, 1);
        for (int i = 0; i < 20; i++) {
            y.late(0, 5000 + 20000 * i, i % 2 == 0 ? 0 : mix);
        }
        due("25: by none", y.best(0), NONE);
        due("31: more than 16 blocks", y.rounded(0, 1), -4);
        due("30: more than 16 blocks", y.rounds(0, 1), -4);
        due("28: more than 16 blocks", y.cuts(0, 1, 2), -4);
        due("27: more than 16 blocks", y.thin(0, 1), -4);
        due("26: more than 16 blocks", y.repack(0, 199), -4);
        due("26: room stays", y.count(0, 0), 200);
        due("29: more than 16 blocks", y.join(0, 0, 1), -4);
        due("29: nothing came", y.count(1, 0), -2);
        due("27 to 30: late ones stay", y.count(0, 3), 20);
    }

    static void repacking() {
        SeriesPress x = begun(200);
        due("26: none such", x.repack(1, 24), -2);
        due("26: room 23", x.repack(0, 23), -2);
        due("26: room 201", x.repack(0, 201), -2);
        due("26: without points", x.repack(0, 24), 0);
        x.add(0, 0, 0);
        x.add(0, 1000000, -1);
        x.late(0, 1, 0);
        due("26: two blocks", x.repack(0, 24), 2);
        due("26: its room", x.count(0, 0), 24);
        due("26: none is late", x.count(0, 3), 0);
        due("26: points", x.count(0, 1), 3);
        due("26: one block", x.repack(0, 200), 1);
        due("26: open", x.block(0, 0, 5), 0);
        x.seals(0);
        x.damage(0, 0, 0, 1);
        due("26: a block is broken", x.repack(0, 24), -6);
        due("26: -2 ahead of -6", x.repack(0, 23), -2);
    }

    static void thinning() {
        SeriesPress x = begun(200);
        due("27: none such", x.thin(1, 1), -2);
        due("27: step 0", x.thin(0, 0), -2);
        due("27: step 1000001", x.thin(0, 1000001), -2);
        due("27: without points", x.thin(0, 1000000), 0);
        int[] stamps = {3, 9, 10, 11, 25, 29, 30};
        for (int s : stamps) {
            x.add(0, s, s);
        }
        x.late(0, 8, 8);
        due("27: step 1", x.thin(0, 1), 0);
        due("27: packed anew", x.count(0, 3), 0);
        due("27: step 10", x.thin(0, 10), 4);
        due("27: the first stays", x.has(0, 3), 1);
        due("27: the next goes", x.has(0, 9), 0);
        due("27: the first of the next stays", x.at(0, 10), 10);
        due("27: left", x.count(0, 6), 4);
        due("27: the last one", x.count(0, 7), 30);
        due("27: all but one go", x.thin(0, 1000000), 3);
        due("27: last is the first then", x.count(0, 7), 3);
        x.seals(0);
        x.damage(0, 0, 0, 1);
        due("27: a block is broken", x.thin(0, 1), -6);
        due("27: -2 ahead of -6", x.thin(0, 0), -2);
    }

    static void cutting() {
        SeriesPress x = begun(24);
        due("28: none such", x.cuts(1, 0, 1), -2);
        due("28: from above to", x.cuts(0, 1, 0), -2);
        due("28: without points", x.cuts(0, 0, 1), 0);
        for (int i = 0; i < 6; i++) {
            x.add(0, 10 * i, d(i));
            x.seals(0);
        }
        x.late(0, 25, 1);
        due("28: on its edges", x.cuts(0, 20, 30), 3);
        due("28: left", x.count(0, 6), 4);
        due("28: none is late", x.count(0, 3), 0);
        due("28: packed anew", x.count(0, 2) < 4 ? 1 : 0, 1);
        due("28: any ints", x.cuts(0, 31, Integer.MAX_VALUE), 2);
        due("28: last", x.count(0, 7), 10);
        x.seals(0);
        x.damage(0, 0, 0, 1);
        due("28: a block is broken", x.cuts(0, 0, 1), -6);
        x.damage(0, 0, 0, 0);
        due("28: all", x.cuts(0, Integer.MIN_VALUE, Integer.MAX_VALUE), 2);
        due("28: no last", x.count(0, 7), NONE);
        due("28: no blocks", x.count(0, 2), 0);
    }

    static void joining() {
        SeriesPress x = with(1, 2, 3);
        x.begins(1, 24);
        x.add(1, 5, d(7));
        x.add(1, 20, d(8));
        x.add(1, 99, d(9));
        x.late(1, 98, d(9));
        due("29: none such", x.join(0, 2, 3), -2);
        due("29: none such, first", x.join(2, 0, 3), -2);
        due("29: to none", x.join(0, 1, 4), -2);
        due("29: to -1", x.join(0, 1, -1), -2);
        due("29: one block", x.join(0, 1, 3), 1);
        due("29: room of the first", x.count(3, 0), 200);
        due("29: points", x.count(3, 6), 6);
        due("29: of like stamps the first", x.at(3, 20), d(2));
        due("29: a late one", x.at(3, 98), d(9));
        due("29: none is late there", x.count(3, 3), 0);
        due("29: last", x.count(3, 7), 99);
        due("29: the other stays", x.count(1, 3), 1);
        due("29: the other way", x.join(1, 0, 3) > 1 ? 1 : 0, 1);
        due("29: of like stamps the first, then", x.at(3, 20), d(8));
        due("29: room of the first, then", x.count(3, 0), 24);
        due("29: to the second", x.join(0, 1, 1), 1);
        due("29: it has all", x.count(1, 6), 6);
        due("29: its room", x.count(1, 0), 200);
        due("29: to the first", x.join(0, 1, 0), 1);
        due("29: it has all too", x.count(0, 6), 6);
        due("29: with itself", x.join(0, 0, 0), 1);
        x.copy(0, 2);
        x.seals(2);
        x.damage(2, 0, 0, 1);
        due("29: the second is broken", x.join(0, 2, 3), -6);
        due("29: the first is broken", x.join(2, 0, 3), -6);
        due("29: to a broken one", x.join(0, 1, 2), 1);
        due("29: it is sound", x.count(2, 5), 0);
    }

    static void rounding() {
        SeriesPress x = begun(200);
        due("30: none such", x.rounds(1, 1), -2);
        due("31: none such", x.rounded(1, 1), -2);
        due("30: bits 0", x.rounds(0, 0), -2);
        due("31: bits 0", x.rounded(0, 0), -2);
        due("30: bits 53", x.rounds(0, 53), -2);
        due("31: bits 53", x.rounded(0, 53), -2);
        due("31: without points", x.rounded(0, 1), 0);
        long[] values = {d(1.5), NAN, INF, 7, d(2), -1L, MINUS_INF, 0x8000000000000003L};
        for (int i = 0; i < 8; i++) {
            x.add(0, i, values[i]);
        }
        x.late(0, 4, d(2) | 1);
        due("30: lowest bit", x.rounds(0, 1), 3);
        due("30: packed anew", x.count(0, 3), 0);
        due("30: 7 is 6", x.at(0, 3), 6);
        due("30: below 0", x.at(0, 7), 0x8000000000000002L);
        due("30: no number stays", x.at(0, 1), NAN);
        due("30: no number below 0 stays", x.at(0, 5), -1L);
        due("30: infinite stays", x.at(0, 6), MINUS_INF);
        due("30: nothing left to do", x.rounds(0, 1), 0);
        int bytes = x.rounded(0, 52);
        due("31: nothing happened", x.at(0, 0), d(1.5));
        due("30: all the fraction", x.rounds(0, 52), 3);
        due("30: 1.5 is 1", x.at(0, 0), d(1));
        due("30: least ones are 0", x.at(0, 3), 0);
        due("30: -0.0", x.at(0, 7), MINUS_ZERO);
        due("31: so many bytes", bytes, x.count(0, 4));
        x.seals(0);
        x.damage(0, 0, 0, 1);
        due("30: a block is broken", x.rounds(0, 1), -6);
        due("31: a block is broken", x.rounded(0, 1), -6);
        due("31: -2 ahead of -6", x.rounded(0, 0), -2);
    }

    static void dearestPoint() {
        SeriesPress x = begun(200);
        due("32: none such", x.dearest(1, 0), -2);
        due("32: none", x.dearest(0, 0), NONE);
        x.add(0, 0, 0);
        due("32: heads aside", x.dearest(0, 1), NONE);
        x.add(0, 1, 0);
        x.add(0, 2, 0);
        x.add(0, 4, 0);
        due("32: the first of several", x.dearest(0, 0), 1);
        due("32: so many bits", x.dearest(0, 1), 10);
        x.late(0, 3, -1);
        due("32: late ones aside", x.dearest(0, 0), 1);
        x.seals(0);
        x.add(0, 5, 0);
        x.add(0, 6, -1);
        due("32: in another block", x.dearest(0, 0), 6);
        due("32: in another block, bits", x.dearest(0, 1), 9 + 13 + 64);
        x.seals(0);
        x.damage(0, 1, 0, 1);
        due("32: a broken one aside", x.dearest(0, 0), 1);
        due("32: what -1", x.dearest(0, -1), -2);
        due("32: what 2", x.dearest(0, 2), -2);
    }

    static void whereabouts() {
        SeriesPress x = begun(24);
        due("33: none such", x.where(1, 0), -2);
        due("33: none", x.where(0, 0), NONE);
        x.add(0, 0, 0);
        x.add(0, 5, 0);
        x.seals(0);
        x.add(0, 10, 0);
        due("33: first", x.where(0, 5), 0);
        due("33: second", x.where(0, 10), 1);
        due("33: between", x.where(0, 4), NONE);
        x.late(0, 4, 0);
        x.late(0, 5, 0);
        due("33: late", x.where(0, 4), NONE);
        due("33: late in place of one", x.where(0, 5), NONE);
        due("33: stamp -1", x.where(0, -1), -2);
        due("33: stamp above all", x.where(0, MAX + 1), -2);
        x.damage(0, 0, 0, 1);
        due("33: broken", x.where(0, 0), NONE);
        x.drops(0, 0);
        due("33: first then", x.where(0, 10), 0);
    }

    static void copying() {
        SeriesPress x = begun(24);
        due("34: none such", x.copy(1, 0), -2);
        due("34: to 4", x.copy(0, 4), -2);
        due("34: to -1", x.copy(0, -1), -2);
        x.add(0, 0, 1);
        x.seals(0);
        x.damage(0, 0, 5, 1);
        x.add(0, 5, 0);
        x.add(0, 6, 0xff00);
        x.late(0, 2, 9);
        due("34: it is", x.copy(0, 3), 0);
        for (int what = 0; what < 8; what++) {
            due("34: count " + what, x.count(3, what), x.count(0, what));
        }
        due("34: window", x.window(3, 1), 8);
        due("34: goes on alike", x.would(3, 7, 0), x.would(0, 7, 0));
        due("34: goes on alike, by bytes", x.add(3, 7, 0), x.add(0, 7, 0));
        for (int i = 0; i < 24; i++) {
            due("34: byte " + i, x.octet(3, 1, i), x.octet(0, 1, i));
        }
        due("34: to itself", x.copy(0, 0), 0);
        due("34: it stays", x.count(0, 6), 4);
        x.late(3, 3, 9);
        due("34: apart", x.count(0, 3), 1);
        due("34: a broken one", x.damage(3, 0, 5, 0), 1);
        due("34: sound again there", x.fault(3, 0, 0), 0);
        due("34: broken here", x.fault(0, 0, 0), 1);
    }

    static void mending() {
        SeriesPress x = begun(24);
        x.add(0, 5, 1);
        due("35: none such", x.mends(1, 0), -2);
        due("35: no block", x.mends(0, 1), -2);
        due("35: no block -1", x.mends(0, -1), -2);
        due("35: open", x.mends(0, 0), 0);
        due("36: open", x.mend(0, 0, 0, 0), NONE);
        x.seals(0);
        due("35: sound", x.mends(0, 0), 0);
        due("36: sound", x.mend(0, 0, 0, 0), NONE);
        due("36: none such", x.mend(1, 0, 0, 0), -2);
        due("36: no block", x.mend(0, 1, 0, 0), -2);
        due("36: what -1", x.mend(0, 0, 0, -1), -2);
        due("36: what 2", x.mend(0, 0, 0, 2), -2);
        due("36: i -1", x.mend(0, 0, -1, 0), NONE);
        // A byte of the value is another one: each of the eight may become one by which the check is right
        // (or two, if 251 more is a byte too), and the check may become right.
        x.damage(0, 0, 6, 1);
        int found = 0;
        for (int i = 0; i < 15; i++) {
            int is = x.octet(0, 0, i);
            for (int to = 0; to < 256; to++) {
                x.damage(0, 0, i, to);
                if (to != is && x.fault(0, 0, 0) == 0) {
                    x.damage(0, 0, i, is);
                    due("36: byte of mend " + found, x.mend(0, 0, found, 0), i);
                    due("36: what it becomes " + found, x.mend(0, 0, found, 1), to);
                    found++;
                }
            }
            x.damage(0, 0, i, is);
        }
        due("35: so many", x.mends(0, 0), found);
        due("35: more than eight", found >= 9 ? 1 : 0, 1);
        due("36: not so many", x.mend(0, 0, found, 0), NONE);
        due("35: still broken", x.fault(0, 0, 0), 1);
        x.damage(0, 0, 6, 0);
        x.damage(0, 0, 3, 9);
        makeCheckRight(x, 0);
        due("35: another first stamp", x.fault(0, 0, 0), 7);
        due("35: one byte is not enough", x.mends(0, 0), 0);
        // 5 and 256 are alike by 251, but 256 is no byte; 0 and 251 are.
        x.begins(0, 24);
        x.add(0, 0, 1);
        x.seals(0);
        x.damage(0, 0, 3, 251);
        due("35: the check is right", x.fault(0, 0, 0), 7);
        due("35: one way", x.mends(0, 0), 1);
        due("36: its byte", x.mend(0, 0, 0, 0), 3);
        due("36: what it becomes", x.mend(0, 0, 0, 1), 0);
        // A check that is none: 251 .. 255.
        x.damage(0, 0, 3, 0);
        int check = x.damage(0, 0, 14, 255);
        due("35: only the check", x.mends(0, 0), 1);
        due("36: its byte, the last", x.mend(0, 0, 0, 0), 14);
        due("36: it becomes right", x.mend(0, 0, 0, 1), check);
    }

    static void sealing() {
        SeriesPress x = begun(24);
        due("37: none such", x.seals(1), -2);
        due("37: none is open", x.seals(0), -5);
        x.add(0, 5, 1);
        due("37: bytes", x.seals(0), 15);
        due("37: sealed", x.block(0, 0, 5), 1);
        due("37: none is open then", x.seals(0), -5);
        due("37: the next begins", x.add(0, 6, 1), 1);
        x.add(0, 7, 1);
        due("37: bytes of two", x.seals(0), 17);
        int check = 7;
        for (int i = 0; i < 16; i++) {
            check = (check * 31 + x.octet(0, 1, i)) % 251;
        }
        due("37: the check", x.octet(0, 1, 16), check);
    }

    static void dropping() {
        SeriesPress x = begun(24);
        due("38: none such", x.drops(1, 0), -2);
        due("38: no block", x.drops(0, 0), -2);
        for (int i = 0; i < 4; i++) {
            x.add(0, 10 * i, i);
            if (i < 3) {
                x.seals(0);
            }
        }
        x.late(0, 15, 0);
        x.damage(0, 1, 0, 1);
        due("38: block -1", x.drops(0, -1), -2);
        due("38: block 4", x.drops(0, 4), -2);
        due("38: a broken one", x.drops(0, 1), 3);
        due("38: none is broken", x.count(0, 5), 0);
        due("38: the rest moves up", x.block(0, 1, 0), 20);
        due("38: the open one goes on", x.add(0, 31, 3), 2);
        due("38: the open one goes", x.drops(0, 2), 2);
        due("38: last stays", x.count(0, 7), 31);
        due("38: late ones stay", x.count(0, 3), 1);
        due("38: not above last", x.add(0, 31, 0), -5);
        due("38: a new one begins", x.add(0, 32, 0), 2);
        due("38: the sealed one stays sealed", x.block(0, 1, 5), 1);
        x.drops(0, 0);
        x.drops(0, 0);
        due("38: all", x.drops(0, 0), 0);
        due("38: a late one alone", x.count(0, 6), 1);
    }

    static void passing() {
        SeriesPress x = with(1, 3, 3, Double.NaN, 1, 2, 3, -0.0, 0.0);
        due("40: none such", x.passes(1, 0), -2);
        due("40: none such, no number", x.passes(1, NAN), -2);
        due("40: no number", x.passes(0, NAN), NONE);
        due("40: over 2", x.passes(0, d(2)), 3);
        due("40: over 3", x.passes(0, d(3)), 3);
        due("40: zeros are alike", x.passes(0, MINUS_ZERO), 0);
        due("40: zeros are alike too", x.passes(0, 0), 0);
        due("40: just above 0", x.passes(0, 1), 1);
        due("40: infinite", x.passes(0, INF), 0);
        due("40: no points", begun(24).passes(0, 0), 0);
    }

    static void areas() {
        SeriesPress x = begun(200);
        due("42: no points", x.area(0, 0, 9), 0);
        int[] stamps = {0, 10, 15, 100, 101};
        double[] values = {2, -1, Double.NaN, 0.5, 9};
        for (int i = 0; i < 5; i++) {
            x.add(0, stamps[i], d(values[i]));
        }
        due("42: none such", x.area(1, 0, 9), NO_NUMBER);
        due("42: from above to", x.area(0, 9, 0), NO_NUMBER);
        due("42: all", x.area(0, Integer.MIN_VALUE, Integer.MAX_VALUE), d(20 - 5 + 0.5));
        due("42: but for the last of them", x.area(0, 0, 100), d(15));
        due("42: one alone", x.area(0, 10, 14), 0);
        due("42: none", x.area(0, 1, 9), 0);
        due("42: no number last", x.area(0, 0, 15), d(15));
        x.late(0, 5, d(4));
        due("42: with a late one", x.area(0, 0, 10), d(30));
        due("42: -0.0", with(-0.0, 1).area(0, 0, 99), 0);
        SeriesPress y = with(Double.POSITIVE_INFINITY, Double.NEGATIVE_INFINITY, 0);
        due("42: infinite", y.area(0, 10, 20), INF);
        due("42: the sum is none", y.area(0, 10, 30), NO_NUMBER);
        due("42: too great", with(Double.MAX_VALUE, 0).area(0, 10, 20), INF);
    }

    static void feeding() {
        SeriesPress x = new SeriesPress();
        due("46: empty", x.taped(), 0);
        due("44: 0 of none", x.end(0), 0);
        due("44: 1 of none", x.end(1), NONE);
        for (int i = 1; i <= 10; i++) {
            due("43: twenty more", x.feed(i, i, i, i, i), 20 * i);
        }
        due("43: more than 200", x.feed(1, 2, 3, 4, 5), NONE);
        due("46: 200", x.taped(), 200);
        due("44: 201", x.end(201), NONE);
        due("44: -1", x.end(-1), NONE);
        due("46: nothing happened", x.taped(), 200);
        due("44: 181", x.end(181), 181);
        due("43: would be 201", x.feed(1, 2, 3, 4, 5), NONE);
        due("44: 180", x.end(180), 180);
        due("43: 200 again", x.feed(1, 2, 3, 4, 5), 200);
        due("44: 0", x.end(0), 0);
        due("46: empty again", x.taped(), 0);
        x.begins(0, 24);
        x.feed(0x01020304, 0x05060708, 0x090a0b0c, 0x00010000, 0);
        x.end(14);
        int check = 7;
        for (int b : new int[] {1, 2, 3, 4, 5, 6, 7, 8, 9, 10, 11, 12, 0, 1}) {
            check = (check * 31 + b) % 251;
        }
        x.end(0);
        x.feed(0x01020304, 0x05060708, 0x090a0b0c, 0x00010000 | check << 8, 0);
        x.end(15);
        due("45: highest bytes first", x.takes(0), 0);
        due("45: its bits", x.at(0, 0x01020304), 0x05060708090a0b0cL);
    }

    static void taking() {
        SeriesPress x = begun(24);
        String two = "10 0000010 0";
        tape(x, sealed(7, 5, 2, two));
        due("45: none such", x.takes(1), -2);
        due("46: it stays", x.taped(), 17);
        due("45: it comes", x.takes(0), 0);
        due("46: it is gone", x.taped(), 0);
        due("45: last", x.count(0, 7), 9);
        due("45: points", x.count(0, 1), 2);
        due("45: sealed", x.block(0, 0, 5), 1);
        due("45: bits", x.block(0, 0, 4), 10);
        due("45: no bytes", x.takes(0), -11);
        tape(x, sealed(7, 5, 1, "").subList(0, 14));
        due("45: 14 bytes", x.takes(0), -11);
        tape(x, List.of(7));
        due("45: one byte, the check of none", x.takes(0), -11);
        tape(x, checked(sealed(20, 5, 1, "").subList(0, 13)));
        due("45: 14 bytes with a right check", x.takes(0), -11);
        tape(x, sealed(9, 5, 2, two));
        due("45: not above last", x.takes(0), -5);
        due("46: it is gone then", x.taped(), 0);
        x.add(0, 10, 6);
        tape(x, sealed(11, 5, 2, two));
        due("45: behind an open one", x.takes(0), 2);
        due("45: which is sealed", x.block(0, 1, 5), 1);
        due("45: with a check", x.block(0, 1, 3), 15);
        due("45: and sound", x.fault(0, 1, 0), 0);
        due("45: none is open", x.seals(0), -5);
        due("45: the next begins anew", x.add(0, 14, 5), 3);
        tape(x, sealed(20, 5, 2, "1111" + low(500000, 32) + "11 00000 111111" + low(-1, 64)));
        due("45: more than room", x.takes(0), -3);
        tape(x, sealed(0, 5, 2, "1111" + low(500000, 32) + "11 00000 111111" + low(-1, 64)));
        due("45: -3 ahead of -5", x.takes(0), -3);
        tape(x, sealed(0, 5, 9, "1111" + low(500000, 32) + "11 00000 111111" + low(-1, 64)));
        due("45: a fault ahead of -3", x.takes(0), -12);
        due("45: refused, the open one stays open", x.block(0, 3, 5), 0);
        SeriesPress z = single(16);
        tape(z, sealed(15000000, 5, 1, ""));
        due("45: -5 ahead of -4", z.takes(0), -5);
        tape(z, sealed(15000001, 5, 1, ""));
        due("45: no 17th", z.takes(0), -4);
        due("46: gone too", z.taped(), 0);
        z.drops(0, 3);
        tape(z, sealed(15000001, 5, 1, ""));
        due("45: a 16th", z.takes(0), 15);
        z.damage(0, 15, 3, 0);
        makeCheckRight(z, 15);
        due("45: its first stamp is not what came", z.fault(0, 15, 0), 7);
    }

    /** As many points as can be: 737 in each of 16 blocks, and late ones between. */
    static void fullest() {
        SeriesPress x = begun(200);
        int all = 16 * 737;
        int stamp = 0;
        for (int b = 0; b < 16; b++) {
            tape(x, sealed(stamp, 5, 737, "10 0000010 0" + "00".repeat(735)));
            due("45: block " + b, x.takes(0), b);
            stamp += 2 * 737;
        }
        due("7: points", x.count(0, 6), all);
        due("25: best", x.best(0), 200);
        due("6: merge", x.merge(0), 16);
        due("7: points then", x.count(0, 1), all);
        x.copy(0, 1);
        due("29: join with itself", x.join(0, 1, 2), 16);
        due("24: alike", x.differ(0, 2), NONE);
        for (int i = 0; i < 20; i++) {
            x.late(0, 2 * i + 1, 5);
        }
        due("7: points with late ones", x.count(0, 6), all + 20);
        due("15: the last", x.point(0, all + 19, 0), stamp - 2);
        due("39: the last", x.least(0, 0, MAX, all + 19), 5);
        due("39: one more", x.least(0, 0, MAX, all + 20), NO_NUMBER);
        due("25: by none", x.best(0), NONE);
        due("6: more than 16", x.merge(0), -4);
        due("29: join, more than 16", x.join(1, 0, 3), -4);
        due("23: both", x.both(0, 1, 1), all);
        due("37: the last is full", x.seals(0), 200);
        x.damage(0, 0, 0, 255);
        due("35: a full one", x.mends(0, 0) > 0 ? 1 : 0, 1);
        due("36: its first byte", x.mend(0, 0, 0, 0), 0);
        due("36: is 0 again", x.mend(0, 0, 0, 1), 0);
        due("38: it goes", x.drops(0, 0), 15);
    }
}
