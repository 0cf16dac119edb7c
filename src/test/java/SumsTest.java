import java.util.Random;

/** Sums and areas: the class reckons them without doubles, so they are held against the machine's own doubles here. */
public final class SumsTest {
    static final long NO_NUMBER = 0x7ff8000000000000L;
    static final int MAX = 2000000000;
    static SeriesPress adder;
    static int told = 0;
    static int wrong = 0;

    public static void main(String[] args) {
        Random random = new Random(args.length > 0 ? Long.parseLong(args[0]) : 5);
        for (int n = 0; n < 200000; n++) {
            if (n % 100 == 0) {
                // Five calls a turn: an object is used for 512 at most.
                adder = new SeriesPress();
            }
            long a = someDouble(random);
            long b = besideIt(a, random);
            if (!Double.isNaN(Double.longBitsToDouble(a)) && !Double.isNaN(Double.longBitsToDouble(b))) {
                heldAgainst(a, b, 1 + (random.nextBoolean() ? random.nextInt(100) : random.nextInt(MAX - 1)));
            }
        }
        System.out.println(wrong == 0 ? "all " + told + " answers are as due" : wrong + " answers are not as due");
        if (wrong != 0) {
            System.exit(1);
        }
    }

    static long someDouble(Random random) {
        long bits = random.nextLong();
        switch (random.nextInt(9)) {
            case 0: return bits & 0x800fffffffffffffL;
            case 1: return bits & 0x801fffffffffffffL;
            case 2: return bits | 0x7fe0000000000000L;
            case 3: return bits & -1L << random.nextInt(64);
            case 4: return Double.doubleToRawLongBits(random.nextInt(2000) - 1000);
            case 5: return bits & 0xffe0000000000000L;
            case 6: return bits & 0x800fffffffffffffL | 0x3ff0000000000000L;
            case 7: return bits & 0x8000000000000000L | 0x7ff0000000000000L - (bits & 3);
            default: return bits;
        }
    }

    /** Often near to the first one, or against it, as ties and short sums come of these. */
    static long besideIt(long a, Random random) {
        long b = random.nextInt(3) == 0 ? a ^ 1L << 63 ^ random.nextLong() >>> 10 + random.nextInt(54)
                : someDouble(random);
        if (random.nextInt(3) > 0) {
            return b;
        }
        int e = (int) (a >>> 52 & 2047) + random.nextInt(120) - 60;
        return b & 0x800fffffffffffffL | (long) Math.max(0, Math.min(2046, e)) << 52;
    }

    static void heldAgainst(long a, long b, int far) {
        adder.begins(0, 200);
        adder.add(0, 0, a);
        adder.add(0, far, b);
        double x = Double.longBitsToDouble(a);
        double y = Double.longBitsToDouble(b);
        double sum = 0.0 + x + y;
        due("promise 17: " + x + " + " + y, adder.value(0, 0, far, 4),
                Double.isNaN(sum) ? NO_NUMBER : Double.doubleToRawLongBits(sum));
        due("promise 42: " + x + " * " + far, adder.area(0, 0, far), Double.doubleToRawLongBits(0.0 + x * far));
    }

    static void due(String what, long got, long want) {
        told++;
        if (got != want) {
            wrong++;
            System.out.println(what + " answered " + got + ", due is " + want);
        }
    }
}
