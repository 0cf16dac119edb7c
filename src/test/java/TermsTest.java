import java.lang.reflect.InvocationTargetException;
import java.lang.reflect.Method;
import java.util.Arrays;
import java.util.Comparator;
import java.util.List;
import java.util.Random;

/** "What it is" and the terms I to IV of the document, sentence by sentence. */
public final class TermsTest extends DocumentTest {
    /** The second point of a block that begins with stamp 0 and value 5: stamp 1, the same value. */
    static final String TWO = "10 0000001 0";
    static final String SECOND_ONE = "10 0000001";

    public static void main(String[] args) throws Exception {
        reads("What it is", "Terms");
        calls();
        section("Terms");
        seriesAndPoints();
        heads();
        bitsAndCheck();
        stamps();
        classes();
        sameValues();
        windows();
        valuesAnew();
        adding();
        packedAnew();
        faultOfCheck();
        faultOfShortness();
        faultOfStamps();
        faultOfClass();
        faultOfValue();
        faultsOfHeadAndRest();
        faultOfOtherStamps();
        brokenAndSound();
        firstFault();
        places();
        anyInts();
        lastStamp();
        pointsOfAll();
        opened();
        noNumbers();
        ends();
    }

    // ---- What it is

    static void calls() {
        section("What it is");
        namesNoCase("Series of metered values pressed into blocks: stamps by their second differences, doubles by which"
                + " bits differ from those ahead, bit behind bit, blocks that are sealed when full; points that come"
                + " late; what a point would take; each byte as it is; blocks that are broken, and where; points, spans,"
                + " sums, least and greatest read in place, without opening more blocks than must be; what two series"
                + " share; other rooms, the best one; thinned, cut, copied, taken as bytes.");
        says("An object is used for at most 512 calls after it has been made;", () -> {
            SeriesPress x = new SeriesPress();
            due("call 1", x.begins(0, 200), 0);
            for (int n = 2; n <= 511; n++) {
                due("call " + n, x.add(0, n, 5), 0);
            }
            due("call 512", x.count(0, 6), 510);
            SeriesPress y = new SeriesPress();
            for (int n = 1; n <= 511; n++) {
                due("call " + n, y.begins(n % 4, 24), 0);
            }
            due("call 512, the first point", y.add(0, 0, 0), 0);
        });
        says("what later calls answer is free.", () -> {
            SeriesPress x = new SeriesPress();
            Method[] face = face();
            Random random = new Random(9);
            for (int n = 0; n < 20000; n++) {
                callAnyhow(x, face[random.nextInt(face.length)], random);
            }
            due("not that they throw: the tape", x.taped() >= 0 ? 1 : 0, 1);
        });
    }

    static Method[] face() {
        return Arrays.stream(SeriesPress.class.getMethods())
                .filter(m -> m.getDeclaringClass() == SeriesPress.class)
                .sorted(Comparator.comparing(Method::getName)).toArray(Method[]::new);
    }

    static void callAnyhow(SeriesPress x, Method method, Random random) {
        int[] numbers = {0, 0, 0, 1, 2, 3, 4, 5, 7, 8, 15, 16, 24, 52, 53, 200, 255, 256, 1000000, MAX, MAX + 1, -1, -2,
            LEAST_INT, GREATEST_INT};
        Object[] arguments = new Object[method.getParameterCount()];
        for (int i = 0; i < arguments.length; i++) {
            boolean wide = method.getParameterTypes()[i] == long.class;
            if (wide) {
                arguments[i] = random.nextLong();
            } else {
                arguments[i] = numbers[random.nextInt(numbers.length)];
            }
        }
        try {
            method.invoke(x, arguments);
        } catch (InvocationTargetException thrown) {
            throw new IllegalStateException(method + Arrays.toString(arguments), thrown.getCause());
        } catch (IllegalAccessException closed) {
            throw new IllegalStateException(closed);
        }
    }

    // ---- I: series, points, heads

    static void seriesAndPoints() {
        says("I. A SERIES has BLOCKS, 16 at most,", () -> {
            SeriesPress x = single(15);
            due("a 16th", x.add(0, 15000000, -1), 15);
            stays("a 17th", x, () -> x.add(0, 16000000, 1), -4);
        });
        says("and LATE POINTS, 20 at most.", () -> {
            SeriesPress x = begun(24);
            x.add(0, 100, 0);
            for (int i = 1; i <= 20; i++) {
                due("late " + i, x.late(0, i, i), i);
            }
            stays("a 21st", x, () -> x.late(0, 21, 21), -4);
        });
        says("A POINT: a stamp, 0 .. 2000000000,", () -> {
            SeriesPress x = begun(200);
            for (int stamp : NO_STAMPS) {
                stays("add of " + stamp, x, () -> x.add(0, stamp, 0), -2);
            }
            due("stamp 0", x.add(0, 0, 0), 0);
            due("stamp 2000000000", x.add(0, MAX, 0), 0);
            due("the first", x.point(0, 0, 0), 0);
            due("the last", x.point(0, 1, 0), MAX);
            for (int stamp : NO_STAMPS) {
                SeriesPress y = with(1, 2);
                stays("add of " + stamp + " then", y, () -> y.add(0, stamp, 0), -2);
                stays("late of " + stamp, y, () -> y.late(0, stamp, 0), -2);
                stays("would of " + stamp, y, () -> y.would(0, stamp, 0), -2);
            }
        });
        says("and 64 bits of a value (a double's).", () -> {
            long[] values = {0, -1, Long.MIN_VALUE, Long.MAX_VALUE, 1, NAN, NO_NUMBER, INF, d(-1.5), 0x0123456789abcdefL};
            SeriesPress x = begun(200);
            for (int i = 0; i < values.length; i++) {
                x.add(0, i, values[i]);
            }
            for (int i = 0; i < values.length; i++) {
                due("bits in the open block", x.at(0, i), values[i]);
            }
            x.late(0, 3, NAN);
            due("bits of a late one", x.at(0, 3), NAN);
            x.repack(0, 40);
            for (int i = 0; i < values.length; i++) {
                due("bits in sealed blocks", x.at(0, i), i == 3 ? NAN : values[i]);
            }
        });
    }

    static void heads() {
        says("A BLOCK, at most ROOM bytes:", () -> {
            for (int room : new int[] {24, 25, 31, 199, 200}) {
                SeriesPress x = begun(room);
                tape(x, soundOf(room));
                x.takes(0);
                due("packed anew", x.merge(0), 1);
                due("open, without a check", x.block(0, 0, 3), room - 1);
                due("two bits more", x.add(0, x.count(0, 7) + 1, 5), 1);
                due("bytes of a full one, room " + room, x.block(0, 0, 3), room);
            }
        });
        says("a HEAD of 14 bytes (the first stamp in 4, its bits in 8, how many POINTS in 2, each the highest first),",
                () -> {
            SeriesPress x = begun(200);
            x.add(0, 0x01020304, 0xf506f708f90afb0cL);
            int[] head = {1, 2, 3, 4, 0xf5, 6, 0xf7, 8, 0xf9, 10, 0xfb, 12, 0, 1};
            for (int i = 0; i < 14; i++) {
                due("byte " + i, x.octet(0, 0, i), head[i]);
            }
            due("a head alone", x.block(0, 0, 3), 14);
            SeriesPress y = begun(200);
            y.add(0, MAX, 0);
            due("highest byte of 2000000000", y.octet(0, 0, 0), 0x77);
            due("its lowest", y.octet(0, 0, 3), 0);
            SeriesPress z = begun(200);
            for (int i = 0; i < 255; i++) {
                z.add(0, i, 0);
            }
            due("255 points, high", z.octet(0, 0, 12), 0);
            due("255 points, low", z.octet(0, 0, 13), 255);
            z.add(0, 255, 0);
            due("256 points, high", z.octet(0, 0, 12), 1);
            due("256 points, low", z.octet(0, 0, 13), 0);
            due("256 points in it", z.block(0, 0, 2), 256);
        });
    }

    static void bitsAndCheck() {
        says("then bits, POINT by POINT from the second on,", () -> {
            SeriesPress x = begun(200);
            x.add(0, 0, 0);
            dueText("of one point", bitsOf(x, 0, 0), "");
            x.add(0, 1, 0);
            dueText("of two", bitsOf(x, 0, 0), bare("10 0000001 0"));
            x.add(0, 3, 0);
            dueText("of three", bitsOf(x, 0, 0), bare("10 0000001 0  10 0000001 0"));
        });
        says("the first bit of a byte the highest, filled up by 0s to a whole byte;", () -> {
            SeriesPress x = begun(200);
            x.add(0, 0, 0);
            x.add(0, 127, 0);
            due("13 bits, byte 14", x.octet(0, 0, 14), 0b11000111);
            due("13 bits, byte 15", x.octet(0, 0, 15), 0b11110000);
            due("no more", x.octet(0, 0, 16), NONE);
            x.add(0, 129, 0);
            // -125 is 110000011 by its lowest nine.
            due("26 bits, byte 15", x.octet(0, 0, 15), 0b11110110);
            due("26 bits, byte 16", x.octet(0, 0, 16), 0b11000001);
            due("26 bits, byte 17", x.octet(0, 0, 17), 0b10000000);
            SeriesPress y = begun(200);
            for (int i = 0; i < 5; i++) {
                y.add(0, i, 0);
            }
            due("16 bits", y.block(0, 0, 4), 16);
            due("16 bits fill two bytes", y.block(0, 0, 3), 16);
            y.add(0, 5, 0);
            due("18 bits take a third", y.block(0, 0, 3), 17);
        });
        says("when it is sealed a CHECK behind:", () -> {
            SeriesPress x = begun(24);
            x.add(0, 0, 0);
            due("open", x.octet(0, 0, 14), NONE);
            x.seals(0);
            due("sealed by seals()", x.octet(0, 0, 14), 219);
            due("and none behind it", x.octet(0, 0, 15), NONE);
            SeriesPress y = single(2);
            due("sealed by add()", y.block(0, 0, 3), 15);
            SeriesPress z = begun(24);
            z.add(0, 0, 0);
            tape(z, sealed(1, 0, 1, ""));
            z.takes(0);
            due("sealed by takes()", z.octet(0, 0, 14), 219);
        });
        says("from 7 on for each byte ahead of it 31 times what there is, and that byte, modulo 251.", () -> {
            boolean least = false;
            boolean greatest = false;
            for (int v = 0; v < 1000 && !(least && greatest); v++) {
                SeriesPress x = begun(200);
                x.add(0, 7, v * 0x0102030405060708L);
                x.add(0, 7 + 300 * v + 1, -1L);
                x.seals(0);
                List<Integer> bytes = bytesOf(x, 0, 0);
                int behind = bytes.size() - 1;
                due("check", bytes.get(behind), checkOf(bytes.subList(0, behind)));
                least |= bytes.get(behind) == 0;
                greatest |= bytes.get(behind) == 250;
            }
            due("a check of 0 and one of 250 were among them", least && greatest ? 1 : 0, 1);
        });
    }

    // ---- I: stamps

    /** Bits of the last of these points, all of value 3, in a new series of room 200. */
    static String lastOf(int... stamps) {
        SeriesPress x = begun(200);
        for (int i = 0; i < stamps.length - 1; i++) {
            x.add(0, stamps[i], 3);
        }
        int ahead = x.block(0, 0, 4);
        x.add(0, stamps[stamps.length - 1], 3);
        for (int i = 0; i < stamps.length; i++) {
            due("read again, stamp " + i, x.point(0, i, 0), stamps[i]);
        }
        return bitsOf(x, 0, 0).substring(ahead);
    }

    /** Bits of a third point of that SECOND. */
    static String ofSecond(int second) {
        return lastOf(5, 100005, 200005 + second);
    }

    static void stamps() {
        says("Of a POINT first the stamp.", () -> {
            SeriesPress x = begun(200);
            x.add(0, 0, 0);
            x.add(0, 1, 1);
            dueText("stamp, value", bitsOf(x, 0, 0), bare("10 0000001" + anew(31, "0".repeat(32) + "1")));
        });
        says("Its DIFFERENCE is how far it is from the one ahead; SECOND: DIFFERENCE less the one ahead of it"
                + " (0 for the second POINT's).", () -> {
            dueText("the second point", lastOf(1000, 1010), bare("10 0001010 0"));
            dueText("the third, as far", lastOf(1000, 1010, 1020), "00");
            dueText("the third, farther by 3", lastOf(1000, 1010, 1023), bare("10 0000011 0"));
            dueText("the third, nearer by 3", lastOf(1000, 1010, 1017), bare("10 1111101 0"));
            dueText("the fourth, against the third", lastOf(1000, 1010, 1017, 1024), "00");
            SeriesPress x = begun(200);
            x.add(0, 0, 3);
            x.add(0, 10, 3);
            x.seals(0);
            x.add(0, 20, 3);
            due("the second of another block begins from 0", x.would(0, 30, 3), 10);
        });
    }

    static void classes() {
        says("CLASS 0: SECOND is 0: one bit 0;", () -> dueText("0", ofSecond(0), "00"));
        says("1: -63 .. 64: bits 10, then its lowest 7;", () -> {
            for (int second : new int[] {1, -1, 63, 64, -62, -63}) {
                dueText("" + second, ofSecond(second), "10" + low(second, 7) + "0");
            }
        });
        says("2: -255 .. 256: 110, its lowest 9;", () -> {
            for (int second : new int[] {65, -64, 255, 256, -254, -255}) {
                dueText("" + second, ofSecond(second), "110" + low(second, 9) + "0");
            }
        });
        says("3: -2047 .. 2048: 1110, its lowest 12;", () -> {
            for (int second : new int[] {257, -256, 2047, 2048, -2046, -2047}) {
                dueText("" + second, ofSecond(second), "1110" + low(second, 12) + "0");
            }
        });
        says("4: 1111, its lowest 32 (the least CLASS that can be; from the highest on).", () -> {
            for (int second : new int[] {2049, -2048, 100000, -99999, 1999799995}) {
                dueText("" + second, ofSecond(second), "1111" + low(second, 32) + "0");
            }
            dueText("as far as can be", lastOf(0, MAX), "1111" + low(MAX, 32) + "0");
            dueText("as near as can be", lastOf(0, MAX - 1, MAX), "1111" + low(2L - MAX, 32) + "0");
        });
    }

    // ---- I: values

    /** Bits of points 0, 1, 2 .. of these values, those of the second stamp (SECOND 1) aside. */
    static String ofValues(long... values) {
        SeriesPress x = begun(200);
        for (int i = 0; i < values.length; i++) {
            x.add(0, i, values[i]);
        }
        for (int i = 0; i < values.length; i++) {
            due("read again, value " + i, x.at(0, i), values[i]);
        }
        return bitsOf(x, 0, 0).substring(9);
    }

    static void sameValues() {
        says("Then the value. X: its bits and those of the POINT ahead, in which they differ.", () -> {
            dueText("1100 and 1010 differ in two bits", ofValues(0b1100L << 40, 0b1010L << 40), anew(21, "11"));
            dueText("against the one ahead, not the first", ofValues(0b1100L << 40, 0b1010L << 40, 0b1100L << 40),
                    anew(21, "11") + "0" + "1011");
        });
        says("X 0: one bit 0 (the same).", () -> {
            dueText("the same", ofValues(5, 5), "0");
            dueText("no numbers, the same", ofValues(NAN, NAN), "0");
            dueText("0.0 and -0.0 are not the same", ofValues(0, MINUS_ZERO), anew(0, "1"));
        });
    }

    static void windows() {
        says("Else a bit 1; the WINDOW of a BLOCK (none at first): so many bits ahead and behind that are left out.",
                () -> {
            SeriesPress x = begun(200);
            x.add(0, 0, 0);
            due("none at first", x.window(0, 0), NONE);
            x.add(0, 1, 0xffL << 40);
            due("ahead", x.window(0, 0), 16);
            due("behind", x.window(0, 1), 40);
            due("by it", x.would(0, 2, 0), 1 + 2 + 8);
            x.seals(0);
            x.add(0, 2, 0xffL << 40);
            due("none at first in the next block", x.window(0, 0), NONE);
            due("so anew there", x.would(0, 3, 0), 9 + 13 + 8);
        });
        says("If X has as many 0s ahead and behind, at least, and what the WINDOW leaves has at most 11 bits more than X"
                + " from its first 1 to its last: a bit 0, what the WINDOW leaves.", () -> {
            long first = 0xfffL << 39;
            String window = anew(13, "1".repeat(12)) + "0";
            dueText("as many ahead and behind", ofValues(0, first, first ^ 0x801L << 39), window + "10" + "100000000001");
            dueText("one fewer ahead", ofValues(0, first, first ^ 0x1001L << 39), window + anew(12, "1000000000001"));
            dueText("one fewer behind", ofValues(0, first, first ^ 0x1001L << 38), window + anew(13, "1000000000001"));
            dueText("11 bits more, ahead", ofValues(0, first, first ^ 1L << 39), window + "10" + "000000000001");
            dueText("11 bits more, behind", ofValues(0, first, first ^ 1L << 50), window + "10" + "100000000000");
            dueText("11 bits more, both", ofValues(0, first, first ^ 1L << 45), window + "10" + "000001000000");
            long wide = 0x1fffL << 39;
            String wider = anew(12, "1".repeat(13)) + "0";
            dueText("12 bits more, ahead", ofValues(0, wide, wide ^ 1L << 39), wider + anew(24, "1"));
            dueText("12 bits more, behind", ofValues(0, wide, wide ^ 1L << 51), wider + anew(12, "1"));
            dueText("12 bits more, both", ofValues(0, wide, wide ^ 1L << 45), wider + anew(18, "1"));
            dueText("two of 13 bits", ofValues(0, wide, wide ^ 3L << 45), wider + "10" + "0000011000000");
            String least = anew(31, "0000000000001") + "0";
            dueText("31 told ahead: from its first 1 it is 12 bits more", ofValues(0, 1L << 20, 0),
                    least + anew(31, "0000000000001"));
            dueText("31 told ahead: 11 bits more", ofValues(0, 1L << 20, 1L << 20 ^ 3L << 20),
                    least + "10" + "0000000000011");
            dueText("a window of all 64 bits", ofValues(0, MINUS_ZERO | 1, 1L << 11),
                    anew(0, "1" + "0".repeat(62) + "1") + "0" + "10" + low(MINUS_ZERO | 1 | 1L << 11, 64));
        });
    }

    static void valuesAnew() {
        says("Else a bit 1, five bits: how many 0s are ahead of its first 1 (31 at most), six bits: how many bits from"
                + " there to its last 1, less 1, and these bits;", () -> {
            for (int zeros : new int[] {0, 1, 30, 31}) {
                dueText(zeros + " zeros ahead", ofValues(0, Long.MIN_VALUE >>> zeros), anew(zeros, "1"));
            }
            dueText("32 zeros ahead", ofValues(0, Long.MIN_VALUE >>> 32), anew(31, "01"));
            dueText("63 zeros ahead", ofValues(0, 1), anew(31, "0".repeat(32) + "1"));
            dueText("64 bits", ofValues(0, -1), anew(0, "1".repeat(64)));
            dueText("63 bits, a 0 ahead", ofValues(0, Long.MAX_VALUE), anew(1, "1".repeat(63)));
            dueText("63 bits, a 0 behind", ofValues(0, -2), anew(0, "1".repeat(63)));
        });
        says("they are the WINDOW then.", () -> {
            SeriesPress x = begun(200);
            x.add(0, 0, 0);
            x.add(0, 1, 1L << 20);
            due("ahead, 31 at most", x.window(0, 0), 31);
            due("behind", x.window(0, 1), 20);
            x.add(0, 2, 1L << 20);
            due("the same leaves it", x.window(0, 1), 20);
            x.add(0, 3, 0x40000000L);
            due("by it leaves it", x.window(0, 1), 20);
            x.add(0, 4, -1L);
            due("another one, ahead", x.window(0, 0), 0);
            due("another one, behind", x.window(0, 1), 0);
            x.add(0, 5, -1L ^ 1L << 63);
            due("a third one, ahead", x.window(0, 0), 0);
            due("a third one, behind", x.window(0, 1), 63);
        });
    }

    static void adding() {
        says("add(): into the open BLOCK (the last one, if it is not sealed), if with it, filled up, and CHECK it has"
                + " ROOM bytes at most;", () -> {
            SeriesPress x = begun(24);
            due("none is open", x.add(0, 0, 0), 0);
            // 9 + 2 + 11 + 50 bits are 72, which are 9 bytes: 14, 9 and a check.
            due("72 bits", x.add(0, 1, 1L << 63 | 1L << 14), 0);
            due("23 bytes", x.block(0, 0, 3), 23);
            due("it is open still", x.block(0, 0, 5), 0);
            SeriesPress y = begun(24);
            y.add(0, 0, 0);
            due("73 bits", y.add(0, 1, 1L << 63 | 1L << 13), 1);
            SeriesPress z = begun(25);
            z.add(0, 0, 0);
            due("73 bits, a byte more of room", z.add(0, 1, 1L << 63 | 1L << 13), 0);
        });
        says("else that one is sealed, and a new one begins with it.", () -> {
            SeriesPress x = begun(24);
            x.add(0, 0, 0);
            x.add(0, 1, 1L << 63 | 1L << 14);
            due("two bits more", x.add(0, 2, 1L << 63 | 1L << 14), 1);
            due("sealed", x.block(0, 0, 5), 1);
            due("with its check", x.block(0, 0, 3), 24);
            due("the new one begins with it", x.block(0, 1, 0), 2);
            due("alone", x.block(0, 1, 2), 1);
            due("open", x.block(0, 1, 5), 0);
        });
    }

    static void packedAnew() {
        says("PACKED anew: so from the first POINT on; the last BLOCK stays open.", () -> {
            SeriesPress x = begun(30);
            SeriesPress y = begun(30);
            for (int i = 0; i < 12; i++) {
                int stamp = 100 * i + i * i;
                x.add(0, stamp, d(i));
                x.seals(0);
                y.add(0, stamp, d(i));
            }
            due("each in a block of its own", x.count(0, 2), 12);
            x.merge(0);
            dueText("as if added", look(x), look(y));
            int last = x.count(0, 2) - 1;
            for (int b = 0; b <= last; b++) {
                due("sealed, block " + b, x.block(0, b, 5), b < last ? 1 : 0);
                dueText("bytes of block " + b, bytesOf(x, 0, b).toString(), bytesOf(y, 0, b).toString());
            }
        });
        says("the last BLOCK stays open.", () -> {
            SeriesPress x = with(1, 2, 3);
            x.seals(0);
            x.merge(0);
            due("merge()", x.block(0, 0, 5), 0);
            x.seals(0);
            x.repack(0, 100);
            due("repack()", x.block(0, 0, 5), 0);
            x.seals(0);
            x.thin(0, 1);
            due("thin()", x.block(0, 0, 5), 0);
            x.seals(0);
            x.cuts(0, 30, 30);
            due("cuts()", x.block(0, 0, 5), 0);
            x.seals(0);
            x.rounds(0, 1);
            due("rounds()", x.block(0, 0, 5), 0);
            x.seals(0);
            x.join(0, 0, 1);
            due("join()", x.block(1, 0, 5), 0);
            due("a point goes on in it", x.add(1, 40, d(4)), 0);
        });
    }

    // ---- II: faults

    /** A sealed block of these bytes has this fault, be it that it comes so or that it was damaged. */
    static void dueFault(String what, List<Integer> bytes, int fault, int place) {
        due(what + ": takes()", taken(bytes), fault == 0 || fault == 7 ? 0 : -10 - fault);
        // No sound block has 16 bytes, so none can be damaged to be one of these.
        if (bytes.size() >= 15 && bytes.size() != 16) {
            SeriesPress x = holding(bytes);
            due(what + ": fault", x.fault(0, 0, 0), fault);
            due(what + ": place", x.fault(0, 0, 1), place);
        }
    }

    /** Stamps from 0 on, value 5. */
    static void dueFault(String what, int points, String bits, int fault, int place) {
        dueFault(what, sealed(0, 5, points, bits), fault, place);
    }

    /** A block from stamp 0 on, value 5, that is sound. */
    static void dueSound(String what, int points, String bits) {
        due(what, taken(sealed(0, 5, points, bits)), 0);
    }

    static void faultOfCheck() {
        says("II. A sealed BLOCK is read so: FAULT 1: CHECK is not right (of fewer than 15 bytes, too);", () -> {
            List<Integer> bytes = sealed(0, 5, 1, "");
            dueFault("right", bytes, 0, NONE);
            int right = bytes.get(14);
            for (int wrong : new int[] {right - 1, right + 1, 0, 250, 251, 255}) {
                bytes.set(14, wrong);
                dueFault("check " + wrong, bytes, 1, NONE);
            }
            List<Integer> other = sealed(0, 5, 1, "");
            other.set(0, 1);
            dueFault("another byte", other, 1, NONE);
            due("no bytes", taken(List.of()), -11);
            due("one byte, the check of none", taken(List.of(7)), -11);
            due("14 bytes, a head", taken(sealed(0, 5, 1, "").subList(0, 14)), -11);
            for (int n = 1; n < 14; n++) {
                due(n + " bytes and their check", taken(checked(sealed(0, 5, 1, "").subList(0, n))), -11);
            }
            // A check by which 251 more would be right is not: 0 and 251.
            for (int v = 0; v < 2000; v++) {
                List<Integer> low = sealed(0, v, 1, "");
                if (low.get(14) < 5) {
                    low.set(14, low.get(14) + 251);
                    dueFault("251 more", low, 1, NONE);
                    return;
                }
            }
        });
    }

    static void faultOfShortness() {
        says("2: bits end (CHECK aside) within a POINT that HEAD counts;", () -> {
            dueSound("just enough", 5, TWO + "00 00 00");
            dueFault("one more", 6, TWO + "00 00 00", 2, 16);
            dueFault("as many as can be counted", 65535, TWO + "00 00 00", 2, 16);
            dueFault("two points, no bits", 2, "", 2, 0);
            dueFault("within a class", 3, TWO + "111111", 2, 10);
            dueFault("within a class, two bits", 5, TWO + "00 00 11", 2, 14);
            dueFault("within a second", 3, TWO + "10 0000", 2, 10);
            dueFault("ahead of a value", 4, TWO + "00 110 001000001", 2, 12);
            dueFault("behind a value's first bit", 5, TWO + "00 00 01", 2, 14);
            dueFault("within five bits", 3, TWO + "0 11 000", 2, 10);
            dueFault("within six bits", 4, TWO + "00  0 11 00000 0000", 2, 12);
            dueFault("ahead of its bits", 3, TWO + "0 11 00000 000000", 2, 10);
            dueFault("within its bits", 3, TWO + "0 11 00000 111111 11111111", 2, 10);
            String window = TWO + "0" + anew(0, "10000001");
            dueSound("by the window", 4, window + "0 10 10000011");
            dueFault("within the window", 4, window + "0 10 00000", 2, 32);
        });
        says("(CHECK aside)", () -> {
            // By its first bits each check could be two points more.
            for (int v = 0; v < 40; v++) {
                List<Integer> bytes = sealed(0, v, 6, TWO + "00 00 00");
                dueFault("check " + bytes.get(16), bytes, 2, 16);
            }
        });
    }

    static void faultOfStamps() {
        says("3: a stamp that is not above the one ahead, or out of 0 .. 2000000000 (the first one, too);", () -> {
            dueFault("as the one ahead", 2, "0 0  000000", 3, 0);
            dueFault("one below", 2, "10 1111111 0", 3, 0);
            dueFault("far below", 2, "1111" + low(-5, 32) + "0", 3, 0);
            dueFault("as the one ahead, the third", 3, TWO + "10 1111111 0", 3, 10);
            dueSound("one above", 3, "10 0000010 0  10 1111111 0");
            due("2000000000", taken(sealed(MAX - 1, 5, 2, TWO)), 0);
            dueFault("2000000001", sealed(MAX, 5, 2, TWO), 3, 0);
            dueFault("2000000001, the third", sealed(MAX - 1, 5, 3, TWO + "00"), 3, 10);
            dueFault("2147483648 behind", 2, "1111" + low(0x80000000L, 32) + "0", 3, 0);
            dueFault("2147483647 behind", sealed(9, 5, 2, "1111" + low(0x7fffffff, 32) + "0"), 3, 0);
            dueFault("farther than 2147483647", 3, "1111" + low(MAX - 9, 32) + "0  1111" + low(0x7fffffff, 32) + "0",
                    3, 37);
            due("the first is 2000000000", taken(sealed(MAX, 5, 1, "")), 0);
            dueFault("the first is 2000000001", sealed(MAX + 1L, 5, 1, ""), 3, 0);
            dueFault("the first is 2147483648", sealed(0x80000000L, 5, 1, ""), 3, 0);
            dueFault("the first is 4294967295", sealed(0xffffffffL, 5, 2, TWO), 3, 0);
        });
    }

    static void faultOfClass() {
        says("4 (a WINDOW ahead of any leaves no bits):", () -> {
            dueFault("three bits are there", 3, TWO + "0 10", 4, 10);
            dueFault("no bit is behind them", 3, "110 001000001 0  0 10", 4, 13);
            dueFault("one bit of three is missing", 5, TWO + "00 00" + "01", 2, 14);
        });
        says("a CLASS that is not the least that can be,", () -> {
            dueFault("0 as 1", 3, TWO + "10 0000000 0", 4, 10);
            dueFault("0 as 2", 3, TWO + "110 000000000 0", 4, 10);
            dueFault("0 as 3", 3, TWO + "1110 000000000000 0", 4, 10);
            dueFault("0 as 4", 3, TWO + "1111" + low(0, 32) + "0", 4, 10);
            classEdge(1, 64, "110" + low(64, 9));
            classEdge(2, -63, "110" + low(-63, 9));
            classEdge(2, 256, "1110" + low(256, 12));
            classEdge(2, -255, "1110" + low(-255, 12));
            classEdge(3, 2048, "1111" + low(2048, 32));
            classEdge(3, -2047, "1111" + low(-2047, 32));
            String far = "1111" + low(100000, 32) + "0";
            dueSound("65 by class 2", 3, far + "110" + low(65, 9) + "0");
            dueSound("-64 by class 2", 3, far + "110" + low(-64, 9) + "0");
            dueSound("257 by class 3", 3, far + "1110" + low(257, 12) + "0");
            dueSound("-256 by class 3", 3, far + "1110" + low(-256, 12) + "0");
            dueSound("2049 by class 4", 3, far + "1111" + low(2049, 32) + "0");
            dueSound("-2048 by class 4", 3, far + "1111" + low(-2048, 32) + "0");
        });
    }

    /** A third point whose SECOND is told by a class above its own. */
    static void classEdge(int own, int second, String told) {
        String far = "1111" + low(100000, 32) + "0";
        dueFault(second + ", of class " + own + " at most, by one above", 3, far + told + "0", 4, 37);
    }

    static void faultOfValue() {
        // The window leaves 12 bits: 4 ahead, 48 behind.
        String window = SECOND_ONE + anew(4, "100000000001");
        int behind = 9 + 13 + 12;
        says("a value not as told above (X 0 by WINDOW or anew;", () -> {
            dueFault("X 0 by the window", 3, window + "0 10 000000000000", 4, behind);
            dueFault("X 0 anew", 2, SECOND_ONE + anew(31, "000"), 4, 0);
            dueFault("X 0 anew, one bit", 2, SECOND_ONE + anew(5, "0"), 4, 0);
        });
        says("WINDOW ahead of any,", () -> {
            dueFault("the second point", 2, SECOND_ONE + "10 00000", 4, 0);
            dueFault("behind one that is the same", 3, TWO + "0 10 000", 4, 10);
        });
        says("or by which it may not be;", () -> {
            String wide = SECOND_ONE + anew(4, "1000000000001");
            dueSound("11 bits more", 3, wide + "0 10 0000000000011");
            dueFault("12 bits more, ahead", 3, wide + "0 10 0000000000001", 4, behind + 1);
            dueFault("12 bits more, behind", 3, wide + "0 10 1000000000000", 4, behind + 1);
            dueFault("12 bits more, both", 3, wide + "0 10 0000010000000", 4, behind + 1);
        });
        says("anew though by WINDOW;", () -> {
            dueFault("the window's own bits", 3, window + "0" + anew(4, "100000000001"), 4, behind);
            dueFault("11 bits fewer", 3, window + "0" + anew(10, "1"), 4, behind);
            dueSound("one 0 fewer ahead", 3, window + "0" + anew(3, "1000000000001"));
            dueSound("one 0 fewer behind", 3, window + "0" + anew(4, "1000000000001"));
            String wide = SECOND_ONE + anew(4, "1000000000001");
            dueSound("12 bits fewer", 3, wide + "0" + anew(10, "1"));
        });
        says("bits of its own that do not begin and end so);", () -> {
            dueSound("as they should", 2, SECOND_ONE + anew(30, "101"));
            dueFault("they begin with 0", 2, SECOND_ONE + anew(30, "011"), 4, 0);
            dueFault("they begin with 0, ahead of all", 2, SECOND_ONE + anew(0, "01"), 4, 0);
            dueSound("behind 31 they may begin with 0", 2, SECOND_ONE + anew(31, "011"));
            dueFault("they end in 0", 2, SECOND_ONE + anew(30, "110"), 4, 0);
            dueFault("they end in 0, behind 31", 2, SECOND_ONE + anew(31, "010"), 4, 0);
            dueSound("63 behind 1", 2, SECOND_ONE + anew(1, "1".repeat(63)));
            dueFault("64 behind 1, more than a value has", 2, SECOND_ONE + anew(1, "1".repeat(64)), 4, 0);
            dueFault("34 behind 31", 2, SECOND_ONE + anew(31, "1".repeat(34)), 4, 0);
            dueSound("33 behind 31", 2, SECOND_ONE + anew(31, "1".repeat(33)));
        });
    }

    static void faultsOfHeadAndRest() {
        says("5: HEAD counts 0 POINTS;", () -> {
            dueFault("no bits", 0, "", 5, 0);
            dueFault("with bits", 0, TWO, 5, 0);
        });
        says("6: more is left than 7 bits, or a 1;", () -> {
            dueSound("nothing is left", 5, TWO + "00 00 00");
            dueSound("7 bits are left", 2, SECOND_ONE + anew(0, "101"));
            dueFault("8 bits are left", 5, TWO + "00 00 00 00000000", 6, 16);
            dueFault("8 bits are left, one point", 1, "00000000", 6, 0);
            dueFault("9 bits are left", 2, SECOND_ONE + anew(0, "1") + "0".repeat(9), 6, 23);
            for (int n = 0; n < 7; n++) {
                String left = "0".repeat(n) + "1" + "0".repeat(6 - n);
                dueFault("of 7 bits, bit " + n, 2, SECOND_ONE + anew(0, "101") + left, 6, 25);
            }
            dueFault("a 1, the last of six", 2, TWO + "000001", 6, 10);
            dueFault("more than 7 bits, and a 1", 2, TWO + "000001 00000000", 6, 10);
        });
    }

    static void faultOfOtherStamps() {
        says("7: its first, its last stamp are not what they were when it was sealed, came.", () -> {
            SeriesPress x = begun(30);
            x.add(0, 7, 5);
            x.add(0, 9, 5);
            x.seals(0);
            dueOther("sealed by seals()", x, 0);
            SeriesPress y = begun(30);
            y.add(0, 7, 5);
            y.add(0, 9, 5);
            y.add(0, 1000000, -1);
            due("sealed by add()", y.block(0, 0, 5), 1);
            dueOther("sealed by add()", y, 0);
            SeriesPress z = begun(30);
            tape(z, sealed(7, 5, 2, "10 0000010 0"));
            z.takes(0);
            dueOther("came", z, 0);
            SeriesPress w = begun(30);
            w.add(0, 7, 5);
            w.add(0, 9, 5);
            tape(w, sealed(10, 5, 1, ""));
            w.takes(0);
            dueOther("sealed as another came", w, 0);
        });
    }

    /** Of a block with stamps 7 and 9. */
    static void dueOther(String what, SeriesPress x, int block) {
        become(x, block, sealed(7, 6, 2, "10 0000010 0"));
        due(what + ": another value", x.fault(0, block, 0), 0);
        become(x, block, sealed(6, 5, 2, "10 0000011 0"));
        due(what + ": another first stamp", x.fault(0, block, 0), 7);
        due(what + ": another first stamp, place", x.fault(0, block, 1), 0);
        become(x, block, sealed(7, 5, 2, "10 0000011 0"));
        due(what + ": another last stamp", x.fault(0, block, 0), 7);
        become(x, block, sealed(8, 5, 2, "10 0000010 0"));
        due(what + ": both are others", x.fault(0, block, 0), 7);
        become(x, block, sealed(7, 5, 3, "10 0000001 0 00"));
        due(what + ": one more between", x.fault(0, block, 0), 0);
        due(what + ": then there are three", x.block(0, block, 2), 3);
        due(what + ": and it is read", x.has(0, 8), 1);
        due(what + ": of 12 bits", x.block(0, block, 4), 12);
        become(x, block, sealed(7, 5, 2, "10 0000010 0"));
        due(what + ": as it was", x.fault(0, block, 0), 0);
    }

    static void brokenAndSound() {
        says("BROKEN: with a FAULT; SOUND: without.", () -> {
            List<List<Integer>> faults = List.of(List.of(1), sealed(0, 5, 9, TWO), sealed(0, 5, 2, "0 0" + "0".repeat(9)),
                    sealed(0, 5, 2, SECOND_ONE + "10"), sealed(0, 5, 0, TWO), sealed(0, 5, 2, TWO + "000001"),
                    sealed(1, 5, 2, TWO));
            for (int fault = 1; fault <= 7; fault++) {
                SeriesPress x = begun(200);
                tape(x, soundOf(17));
                x.takes(0);
                due("sound: broken ones", x.count(0, 5), 0);
                become(x, 0, faults.get(fault - 1));
                due("fault", x.fault(0, 0, 0), fault);
                due("broken by fault " + fault, x.count(0, 5), 1);
                due("its points are none", x.count(0, 6), 0);
                due("its first stamp", x.block(0, 0, 0), -6);
                become(x, 0, soundOf(17));
                due("sound again", x.count(0, 5), 0);
                due("its points are there again", x.count(0, 6), 5);
            }
        });
    }

    static void firstFault() {
        says("The first FAULT along the bits, of one POINT the least", () -> {
            dueFault("4 of the second, 3 of the third", 3, "110 000000001 0  110 111111111 0", 4, 0);
            dueFault("3 of the second, 4 of the third", 3, "0 0  10 0000000 0", 3, 0);
            dueFault("3 of the second, bits end in the third", 3, "10 1111111 0  111111", 3, 0);
            dueFault("4 of the third, bits end in the fourth", 4, TWO + "10 0000000 0 1111", 4, 10);
            dueFault("4, then a 1 is left", 2, "110 000000001 0  001", 4, 0);
            dueFault("3 of the first, bits end in the second", sealed(MAX + 1L, 5, 2, ""), 3, 0);
            dueFault("3 of the first, too much is left", sealed(MAX + 1L, 5, 1, TWO), 3, 0);
            dueFault("2 and 3 of one", 3, TWO + "10 1111111" + "1".repeat(5), 2, 10);
            dueFault("2 and 4 of one", 3, TWO + "10 0000000" + "1".repeat(5), 2, 10);
            dueFault("3 and 4 of one", 3, TWO + "110 111111111 0", 3, 10);
            dueFault("3 by its stamp, 4 by its value", 3, TWO + "10 1111111 10 000", 3, 10);
            dueFault("2 and 4: more bits than a value has, and they end", 2, SECOND_ONE + "11 11111 111111 11", 2, 0);
        });
        says("(1, then 5 first of all, 7 last);", () -> {
            List<Integer> empty = sealed(MAX + 1L, 5, 0, TWO + "111111");
            dueFault("5 ahead of 3 and 6", empty, 5, 0);
            empty.set(16, (empty.get(16) + 1) % 251);
            dueFault("1 ahead of 5", empty, 1, NONE);
            dueFault("6 ahead of 7", sealed(3, 5, 2, TWO + "000001"), 6, 10);
            dueFault("2 ahead of 7", sealed(3, 5, 9, TWO + "000000"), 2, 16);
            dueFault("7", sealed(3, 5, 2, TWO), 7, 0);
        });
    }

    static void places() {
        says("its place: of 5, 7: 0;", () -> {
            dueFault("of 5", 0, TWO, 5, 0);
            dueFault("of 7", 2, TWO, 7, 0);
        });
        says("of 2, 3, 4: the bit (behind the HEAD, from 0) with which that POINT begins (of the first POINT: 0);", () -> {
            dueFault("of 2, the second", 2, "10 00000", 2, 0);
            dueFault("of 2, the seventh", 7, TWO + "00".repeat(4) + "110000", 2, 18);
            dueFault("of 3, the first", sealed(MAX + 1L, 5, 2, TWO), 3, 0);
            dueFault("of 3, the second", 2, "10 1000001 0", 3, 0);
            dueFault("of 3, the fourth", 4, TWO + "00 10 1111111 0", 3, 12);
            dueFault("of 4, the second", 2, "110 000000001 0", 4, 0);
            dueFault("of 4 by its value, not where that begins", 4, TWO + "00" + "10 0000001" + "10", 4, 12);
        });
        says("of 6: the bit behind the last POINT.", () -> {
            dueFault("two points", 2, TWO + "100000", 6, 10);
            dueFault("three points", 3, TWO + "00" + "1000", 6, 12);
            dueFault("one point", 1, "1000000000000000", 6, 0);
        });
    }

    // ---- II: spans, last, points

    static void anyInts() {
        says("from, to (of calls below) may be any ints: what is out of all stamps is taken as it is.", () -> {
            SeriesPress x = begun(200);
            x.add(0, 0, d(1));
            x.add(0, MAX, d(2));
            int[][] spans = {{LEAST_INT, GREATEST_INT, 2}, {-1, MAX + 1, 2}, {LEAST_INT, -1, 0}, {LEAST_INT, 0, 1},
                {MAX + 1, GREATEST_INT, 0}, {MAX, GREATEST_INT, 1}, {-5, -3, 0}, {LEAST_INT, LEAST_INT, 0},
                {GREATEST_INT, GREATEST_INT, 0}, {1, GREATEST_INT, 1}, {LEAST_INT, MAX - 1, 1}};
            for (int[] s : spans) {
                String name = s[0] + " .. " + s[1];
                due("span " + name, x.span(0, s[0], s[1], 0), s[2]);
                due("opened " + name, x.span(0, s[0], s[1], 1), s[1] < 0 || s[0] > MAX ? 0 : 1);
                due("above " + name, x.above(0, s[0], s[1], 0), s[2]);
                due("least " + name, x.least(0, s[0], s[1], s[2]), NO_NUMBER);
                due("sum " + name, x.value(0, s[0], s[1], 4), s[2] == 0 ? NO_NUMBER
                        : s[2] == 2 ? d(3) : x.value(0, s[0], s[1], 0));
                due("area " + name, x.area(0, s[0], s[1]), s[2] == 2 ? d(2e9) : 0);
                x.copy(0, 1);
                due("cuts " + name, x.cuts(1, s[0], s[1]), s[2]);
            }
        });
    }

    static void lastStamp() {
        says("LAST is the greatest stamp that came to the SERIES since it was PACKED anew (of the last POINT then).", () -> {
            SeriesPress x = begun(24);
            due("none", x.count(0, 7), NONE);
            x.add(0, 0, 0);
            due("0", x.count(0, 7), 0);
            x.add(0, 50, 0);
            due("50", x.count(0, 7), 50);
            x.late(0, 20, 0);
            due("a late one is not above it", x.count(0, 7), 50);
            x.add(0, 49, 0);
            due("one that was refused", x.count(0, 7), 50);
            tape(x, sealed(60, 0, 2, "10 0000101 0"));
            x.takes(0);
            due("the last of a block that came", x.count(0, 7), 65);
            x.drops(0, 1);
            due("without its block", x.count(0, 7), 65);
            x.merge(0);
            due("packed anew, of the last point", x.count(0, 7), 50);
            x.drops(0, 0);
            due("dropped", x.count(0, 7), 50);
            due("it can be late now", x.late(0, 30, 0), 1);
            x.merge(0);
            due("packed anew, of a late one", x.count(0, 7), 30);
            x.drops(0, 0);
            x.merge(0);
            due("packed anew without points", x.count(0, 7), NONE);
            due("then any stamp comes", x.add(0, 0, 0), 0);
        });
    }

    static void pointsOfAll() {
        says("POINTS are those of BLOCKS that are SOUND, an open one, and LATE ones, by stamps;", () -> {
            SeriesPress x = begun(24);
            x.add(0, 10, 1);
            x.seals(0);
            x.add(0, 20, 2);
            x.seals(0);
            x.add(0, 30, 3);
            x.late(0, 25, 4);
            x.late(0, 5, 5);
            x.late(0, 12, 6);
            duePoints("all", x, 5, 10, 12, 20, 25, 30);
            x.damage(0, 0, 0, 1);
            duePoints("the first is broken", x, 5, 12, 20, 25, 30);
            x.damage(0, 1, 0, 1);
            duePoints("both are broken", x, 5, 12, 25, 30);
            x.drops(0, 2);
            duePoints("late ones alone", x, 5, 12, 25);
            x.damage(0, 0, 0, 0);
            duePoints("sound again", x, 5, 10, 12, 25);
        });
        says("a LATE one stands in place of one of that stamp in a BLOCK.", () -> {
            SeriesPress x = begun(24);
            x.add(0, 10, 1);
            x.seals(0);
            x.add(0, 20, 2);
            x.late(0, 10, 7);
            x.late(0, 20, 8);
            duePoints("two, not four", x, 10, 20);
            due("in a sealed one", x.at(0, 10), 7);
            due("in the open one", x.at(0, 20), 8);
            x.damage(0, 0, 0, 1);
            due("in a broken one", x.at(0, 10), 7);
            x.drops(0, 0);
            duePoints("without that block", x, 10, 20);
        });
    }

    static void duePoints(String what, SeriesPress x, int... stamps) {
        due(what + ": how many", x.count(0, 6), stamps.length);
        for (int i = 0; i < stamps.length; i++) {
            due(what + ": point " + i, x.point(0, i, 0), stamps[i]);
        }
        due(what + ": no more", x.point(0, stamps.length, 0), NONE);
    }

    // ---- III, IV

    static void opened() {
        says("III. OPENED for a span are BLOCKS that are SOUND of whose POINTS the first is not behind the span, the last"
                + " not ahead of it.", () -> {
            SeriesPress x = begun(60);
            for (int i = 0; i < 6; i++) {
                x.add(0, 10 * i, i);
                if (i % 2 == 1 && i < 5) {
                    x.seals(0);
                }
            }
            due("all, the open one too", x.span(0, 0, 50, 1), 3);
            due("its first is the last of the span", x.span(0, 11, 20, 1), 1);
            due("its first is one behind", x.span(0, 11, 19, 1), 0);
            due("its last is the first of the span", x.span(0, 10, 19, 1), 1);
            due("its last is one ahead", x.span(0, 11, 19, 1), 0);
            due("between its points", x.span(0, 1, 9, 1), 1);
            due("of the open one, its first", x.span(0, 31, 40, 1), 1);
            due("of the open one, one ahead", x.span(0, 31, 39, 1), 0);
            due("of the open one, its last", x.span(0, 50, 99, 1), 1);
            due("of the open one, one behind", x.span(0, 51, 99, 1), 0);
            x.late(0, 15, 0);
            due("a late one is in none", x.span(0, 11, 19, 1), 0);
            x.damage(0, 1, 0, 1);
            due("one is broken", x.span(0, 0, 50, 1), 2);
            due("the broken one alone", x.span(0, 20, 30, 1), 0);
        });
    }

    static void noNumbers() {
        says("IV. A value is no number if its highest bits but one are eleven 1s and of the 52 lowest any is 1;", () -> {
            long[] none = {0x7ff0000000000001L, 0x7ff8000000000000L, 0x7fffffffffffffffL, 0xfff0000000000001L,
                0xfff8000000000000L, -1L};
            long[] numbers = {0x7ff0000000000000L, 0xfff0000000000000L, 0x7fefffffffffffffL, 0xffefffffffffffffL, 0,
                MINUS_ZERO, 1, 0x7fe0000000000001L, 0x3fffffffffffffffL, 0x000fffffffffffffL};
            for (long bits : none) {
                SeriesPress x = begun(200);
                x.add(0, 0, bits);
                due("no number " + Long.toHexString(bits), x.span(0, 0, 0, 4), 1);
                due("above it", x.above(0, 0, 0, bits), NONE);
                due("over it", x.passes(0, bits), NONE);
                due("the least of them", x.least(0, 0, 0, 0), NO_NUMBER);
            }
            for (long bits : numbers) {
                SeriesPress x = begun(200);
                x.add(0, 0, bits);
                due("a number " + Long.toHexString(bits), x.span(0, 0, 0, 4), 0);
                due("above it", x.above(0, 0, 0, bits), 0);
                due("over it", x.passes(0, bits), 0);
                due("the least of them", x.least(0, 0, 0, 0), bits);
            }
        });
        says("-0.0 and 0.0 are alike as numbers.", () -> {
            for (int turn = 0; turn < 2; turn++) {
                long first = turn == 0 ? 0 : MINUS_ZERO;
                long second = turn == 0 ? MINUS_ZERO : 0;
                SeriesPress x = begun(200);
                x.add(0, 0, first);
                x.add(0, 1, second);
                due("the least is the first", x.value(0, 0, 1, 2), first);
                due("the greatest is the first", x.value(0, 0, 1, 3), first);
                due("neither is above the other", x.above(0, 0, 1, first) + x.above(0, 0, 1, second), 0);
                due("the row of each above", x.row(0, 1), 1);
                due("the row of the same bits", x.row(0, 0), 1);
                due("nothing passes", x.passes(0, first) + x.passes(0, second), 0);
                due("the earlier one first", x.least(0, 0, 1, 0), first);
                due("the later one then", x.least(0, 0, 1, 1), second);
            }
        });
        says("The constants: `NO_NUMBER = 0x7ff8000000000000L`: The bits that are told where there is no number.", () -> {
            due("the constant", SeriesPress.NO_NUMBER, 0x7ff8000000000000L);
            SeriesPress x = begun(24);
            due("value()", x.value(0, 0, 9, 0), SeriesPress.NO_NUMBER);
            due("least()", x.least(0, 0, 9, 0), SeriesPress.NO_NUMBER);
            due("area()", x.area(1, 0, 9), SeriesPress.NO_NUMBER);
            x.add(0, 0, NAN);
            due("not the bits of the one that is none", x.value(0, 0, 9, 0), SeriesPress.NO_NUMBER);
        });
    }
}
