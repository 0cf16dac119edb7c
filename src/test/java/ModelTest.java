import java.util.ArrayList;
import java.util.Arrays;
import java.util.List;
import java.util.Map;
import java.util.Random;
import java.util.TreeMap;
import java.util.TreeSet;
import java.util.stream.IntStream;

/** Long runs of calls on fresh objects, each answer held against a slow model that is written apart from the class. */
public final class ModelTest {
    static final int RUNS = 400;
    static final int CALLS = 512;
    static final long NO_NUMBER = 0x7ff8000000000000L;
    static final String[] NAMES = {
        "begins", "add", "late", "would", "merge", "count", "block", "octet", "fault", "damage", "has", "at",
        "nearest", "point", "span", "value", "above", "ways", "window", "gap", "row", "both", "differ", "best",
        "repack", "thin", "cuts", "join", "rounds", "rounded", "dearest", "where", "copy", "mends", "mend", "seals",
        "drops", "least", "passes", "since", "area", "feed", "end", "takes", "taped"};
    static final TreeMap<String, Integer> seen = new TreeMap<>();

    public static void main(String[] args) {
        int runs = args.length > 0 ? Integer.parseInt(args[0]) : RUNS;
        long seed = args.length > 1 ? Long.parseLong(args[1]) : 0;
        int wrong = IntStream.range(0, runs).parallel().map(run -> new Run(seed + run).play()).sum();
        wrong += missing();
        if (args.length > 2) {
            seen.forEach((k, v) -> System.out.println(k + " " + v));
        }
        System.out.println(wrong == 0 ? "all answers are as the model's" : wrong + " answers are not as the model's");
        if (wrong != 0) {
            System.exit(1);
        }
    }

    /** The runs must have come to every refusal and every fault, or they prove little. */
    static int missing() {
        String[] due = {"add -2", "add -5", "add -4", "late -2", "late -5", "late -4", "would -5", "would 0", "merge -6",
            "merge -4", "fault 0", "fault 1", "fault 2", "fault 3", "fault 4", "fault 5", "fault 6", "fault 7",
            "damage -5", "takes -3", "takes -4", "takes -5", "takes -11", "takes -12", "takes -13", "takes -14",
            "takes -15", "takes -16", "best -6", "best -1", "repack -4", "thin -4", "thin -6", "cuts -4", "cuts -6",
            "join -4", "join -6", "rounds -4", "rounds -6", "rounded -4", "rounded -6", "mends +", "mend +",
            "seals -5", "above -1", "passes -1", "area nan", "value nan", "feed -1", "end -1"};
        int wrong = 0;
        for (String d : due) {
            if (!seen.containsKey(d)) {
                wrong++;
                System.out.println("no run came to: " + d);
            }
        }
        return wrong;
    }

    static final class Run {
        final Random random;
        final long seed;
        final SeriesPress press = new SeriesPress();
        final Model model = new Model();
        final List<String> told = new ArrayList<>();
        int calls = 0;
        int wrong = 0;
        final int style;

        Run(long seed) {
            this.seed = seed;
            random = new Random(seed * 7919 + 17);
            style = random.nextInt(5);
        }

        int play() {
            for (int s = 0; s < 4; s++) {
                if (random.nextInt(8) > 0) {
                    call("begins", s, room());
                }
            }
            while (calls < CALLS && wrong == 0) {
                step();
            }
            return wrong;
        }

        int pick(int n) {
            return random.nextInt(n);
        }

        int room() {
            if (style == 4) {
                return 200 - pick(2);
            }
            return style == 0 ? 24 + pick(8) : style == 1 ? 60 + pick(141) : 24 + pick(177);
        }

        int series() {
            return pick(40) == 0 ? pick(7) - 2 : style == 3 ? pick(4) : style == 4 ? 0 : pick(2);
        }

        int block(int s) {
            return pick(20) == 0 ? pick(20) - 2 : pick(Math.max(1, model.blocks(s)));
        }

        int what(int most) {
            return pick(20) == 0 ? pick(most + 5) - 2 : pick(most + 1);
        }

        int anyStamp(int s) {
            int k = pick(10);
            TreeMap<Integer, Long> all = model.all(s);
            if (k < 6 && all != null && !all.isEmpty()) {
                Integer[] keys = all.keySet().toArray(new Integer[0]);
                return keys[pick(keys.length)] + (k < 3 ? 0 : pick(5) - 2);
            }
            if (k == 6) {
                return random.nextInt();
            }
            if (k == 7) {
                return new int[] {-1, 0, 2000000000, 2000000001, Integer.MAX_VALUE, Integer.MIN_VALUE}[pick(6)];
            }
            return pick(3000);
        }

        int nextStamp(int s) {
            int last = model.last(s);
            int k = pick(30);
            if (k == 0) {
                return anyStamp(s);
            }
            if (k == 1) {
                return last + pick(100000);
            }
            if (k == 2 && pick(3) == 0) {
                return last + pick(500000000);
            }
            if (k < 6) {
                return last + 1 + pick(5000);
            }
            if (k < 10) {
                return last + 1 + pick(600);
            }
            if (k < 15) {
                return last + 1 + pick(130);
            }
            if (k == 15) {
                // Just on the edges of the classes.
                int[] edges = {-63, -64, 64, 65, -255, -256, 256, 257, -2047, -2048, 2048, 2049};
                return (int) Math.min(Integer.MAX_VALUE, (long) last + model.far(s) + edges[pick(edges.length)]);
            }
            return (int) Math.min(Integer.MAX_VALUE, (long) last + Math.max(1, model.far(s)));
        }

        long bits(int s) {
            long ahead = model.lastBits(s);
            switch (pick(style == 1 ? 24 : 16)) {
                case 0: return random.nextLong();
                case 1: return new long[] {0, Long.MIN_VALUE, 0x7ff0000000000000L, 0xfff0000000000000L, NO_NUMBER,
                    0x7ff0000000000001L, -1L, 1L, 0x7fefffffffffffffL, 0xffefffffffffffffL}[pick(10)];
                case 2: case 3: return Double.doubleToRawLongBits(pick(100) / 8.0);
                case 4: return Double.doubleToRawLongBits(random.nextGaussian() * 100);
                case 5: return ahead ^ 1L << pick(64);
                case 6: return ahead ^ (random.nextLong() >>> pick(64));
                case 7: return ahead ^ (random.nextLong() << pick(64));
                case 8: case 9: return ahead ^ (random.nextLong() >>> pick(64) << pick(64));
                case 10: return ahead ^ ((long) pick(4096) << 30 + pick(4));
                case 11: return Double.doubleToRawLongBits(pick(10) - 5);
                case 12: return ahead ^ ((long) (pick(30) + 1) << 40);
                default: return ahead;
            }
        }

        void step() {
            int s = series();
            int k = pick(100);
            if (style == 4 && pick(4) > 0) {
                // Points that take as many bits as can be, until no room holds them.
                if (pick(12) == 0) {
                    call("late", s, pick(Math.max(1, model.last(s))), random.nextLong());
                } else {
                    call("add", s, model.last(s) + 1L + pick(4000000), random.nextLong());
                }
            } else if (k < 38) {
                call("add", s, nextStamp(s), bits(s));
            } else if (k < 43) {
                call("late", s, anyStamp(s), bits(s));
            } else if (k < 48) {
                call("would", s, nextStamp(s), bits(s));
            } else if (k < 60) {
                readPoints(s);
            } else if (k < 70) {
                readSpans(s);
            } else if (k < 81) {
                readBlocks(s);
            } else if (k < 85) {
                spoil(s);
            } else if (k < 88) {
                tape(s);
            } else {
                change(s);
            }
        }

        void readPoints(int s) {
            switch (pick(13)) {
                case 0: call("has", s, anyStamp(s)); break;
                case 1: call("at", s, anyStamp(s)); break;
                case 2: call("nearest", s, anyStamp(s)); break;
                case 3: call("point", s, pick(60) - 1, what(1)); break;
                case 4: call("since", s, anyStamp(s)); break;
                case 5: call("where", s, anyStamp(s)); break;
                case 6: call("gap", s, what(1)); break;
                case 7: call("row", s, what(1)); break;
                case 8: call("passes", s, bits(s)); break;
                case 9: call("both", s, series(), what(1)); break;
                case 10: call("differ", s, series()); break;
                case 11: call(pick(2) == 0 ? "best" : "merge", s); break;
                default: call("count", s, what(7)); break;
            }
        }

        void readSpans(int s) {
            int a = anyStamp(s);
            int b = anyStamp(s);
            int from = pick(12) == 0 ? a : Math.min(a, b);
            int to = pick(12) == 0 ? b : Math.max(a, b);
            switch (pick(5)) {
                case 0: call("span", s, from, to, what(6)); break;
                case 1: call("value", s, from, to, what(4)); break;
                case 2: call("above", s, from, to, bits(s)); break;
                case 3: call("least", s, from, to, pick(30) - 1); break;
                default: call("area", s, from, to); break;
            }
        }

        void readBlocks(int s) {
            switch (pick(9)) {
                case 0: call("block", s, block(s), what(5)); break;
                case 1: call("octet", s, block(s), pick(60) - 1); break;
                case 2: call("fault", s, block(s), what(1)); break;
                case 3: call("ways", s, what(7)); break;
                case 4: call("window", s, what(1)); break;
                case 5: call("dearest", s, what(1)); break;
                case 6: call("mends", s, block(s)); break;
                case 7: call("mend", s, block(s), pick(8) - 1, what(1)); break;
                default: call("rounded", s, pick(55)); break;
            }
        }

        /** Bytes become others; most often the CHECK is made right again, so that deeper faults come up. */
        void spoil(int s) {
            int b = block(s);
            MBlock m = model.blockOf(s, b);
            if (m == null || !m.sealed) {
                call("damage", s, b, pick(40) - 1, pick(258) - 1);
                return;
            }
            int[] was = m.bytes.stream().mapToInt(i -> i).toArray();
            int n = m.bytes.size();
            int i = pick(3) == 0 ? pick(14) : pick(n);
            int to = pick(4) == 0 ? pick(256) : m.bytes.get(i) ^ 1 << pick(8);
            call("damage", s, b, i, to);
            if (pick(5) > 0) {
                call("damage", s, b, n - 1, Model.check(m.bytes, n - 1));
            }
            call("fault", s, b, 0);
            call("fault", s, b, 1);
            if (pick(2) == 0) {
                call("mends", s, b);
                call("mend", s, b, pick(4), 0);
                call("mend", s, b, pick(4), 1);
                call("count", s, 5);
                call("count", s, 6);
            }
            if (pick(5) > 0) {
                call("damage", s, b, i, was[i]);
                call("damage", s, b, n - 1, was[n - 1]);
            } else if (pick(3) > 0) {
                call("drops", s, b);
            }
        }

        /** A tape that another block was, or one that never was a block, changed a little. */
        void tape(int s) {
            List<Integer> bytes = new ArrayList<>();
            MBlock source = pick(3) > 0 ? model.blockOf(series(), pick(16)) : null;
            if (source != null) {
                bytes.addAll(source.bytes);
            } else {
                int points = 1 + pick(3);
                addNumber(bytes, pick(4) == 0 ? random.nextInt() : model.last(s) + 1 + pick(50));
                addNumber(bytes, pick(2) == 0 ? 0 : random.nextInt());
                addNumber(bytes, pick(2) == 0 ? 0 : random.nextInt());
                bytes.add(0);
                bytes.add(points);
                for (int i = pick(6); i > 0; i--) {
                    bytes.add(pick(2) == 0 ? pick(256) : 0);
                }
                bytes.add(0);
            }
            if (pick(2) == 0 && bytes.size() > 4) {
                int first = model.last(s) + 1 + pick(1000);
                for (int i = 0; i < 4; i++) {
                    bytes.set(i, first >>> 24 - 8 * i & 255);
                }
            }
            if (pick(3) == 0) {
                int i = pick(bytes.size());
                bytes.set(i, bytes.get(i) ^ 1 << pick(8));
            }
            if (source != null && !source.sealed) {
                bytes.add(0);
            }
            if (pick(12) > 0) {
                bytes.set(bytes.size() - 1, Model.check(bytes, bytes.size() - 1));
            }
            feedAll(bytes);
            call("end", bytes.size() - (pick(10) == 0 ? pick(3) - 1 : 0));
            call("taped");
            call("takes", s);
            call("taped");
        }

        void addNumber(List<Integer> bytes, int number) {
            for (int shift = 24; shift >= 0; shift -= 8) {
                bytes.add(number >>> shift & 255);
            }
        }

        void feedAll(List<Integer> bytes) {
            call("end", 0);
            for (int i = 0; i < bytes.size(); i += 20) {
                long[] five = new long[5];
                for (int j = 0; j < 20; j++) {
                    int b = i + j < bytes.size() ? bytes.get(i + j) : 0;
                    five[j / 4] = (int) (five[j / 4] << 8 | b);
                }
                call("feed", five);
            }
        }

        void change(int s) {
            switch (pick(style == 2 ? 40 : 16)) {
                case 0: if (pick(4) == 0) { call("begins", s, pick(4) == 0 ? pick(230) : room()); } break;
                case 1: call("merge", s); break;
                case 2: call("repack", s, pick(6) == 0 ? pick(230) : room()); break;
                case 3: call("thin", s, pick(8) == 0 ? 1000000 * pick(3) - 1 : 1 + pick(30)); break;
                case 4: {
                    int a = anyStamp(s);
                    call("cuts", s, a, pick(5) == 0 ? anyStamp(s) : a + pick(50));
                    break;
                }
                case 5: call("join", s, series(), pick(3) == 0 ? series() : s); break;
                case 6: call("rounds", s, pick(3) == 0 ? pick(55) : 1 + pick(8)); break;
                case 7: call("copy", s, series()); break;
                case 8: call("seals", s); break;
                case 9: call("drops", s, block(s)); break;
                case 10:
                    for (int i = pick(12); i > 0; i--) {
                        call("feed", random.nextInt(), 1, 2, 3, random.nextInt());
                    }
                    break;
                case 11: call("end", pick(220) - 3); break;
                case 12: if (pick(4) == 0) { call("takes", s); } break;
                case 13: call("taped"); break;
                case 14: call("add", s, Math.min(2000000000, model.last(s) + 1L), random.nextLong()); break;
                default: call("late", s, pick(Math.max(1, model.last(s) + 1)), bits(s)); break;
            }
        }

        void call(String name, long... a) {
            if (calls >= CALLS || wrong > 0) {
                return;
            }
            calls++;
            long want = model.call(name, a);
            told.add(name + Arrays.toString(a) + " = " + want);
            long got;
            try {
                got = Face.call(press, name, a);
            } catch (RuntimeException e) {
                wrong++;
                tell(name, "threw " + e, want);
                return;
            }
            note(name, a, want);
            if (got != want) {
                wrong++;
                tell(name, "answered " + got, want);
            }
        }

        void note(String name, long[] a, long want) {
            boolean place = name.equals("fault") && a[2] != 0;
            String kind = place ? "fault place " + (want < 0 ? want : "+")
                    : want == NO_NUMBER ? name + " nan"
                    : name.equals("fault") || want <= 0 && want > -20 ? name + " " + want : name + " +";
            synchronized (seen) {
                seen.merge(kind, 1, Integer::sum);
            }
        }

        void tell(String name, String what, long want) {
            synchronized (seen) {
                System.out.println("seed " + seed + ", call " + calls + ": " + told.get(told.size() - 1)
                        + " is due, but it " + what);
                told.forEach(t -> System.out.println("    " + t));
            }
        }
    }

    static final class Face {
        static long call(SeriesPress x, String name, long[] a) {
            int p = a.length > 0 ? (int) a[0] : 0;
            int q = a.length > 1 ? (int) a[1] : 0;
            int r = a.length > 2 ? (int) a[2] : 0;
            int s = a.length > 3 ? (int) a[3] : 0;
            switch (name) {
                case "begins": return x.begins(p, q);
                case "add": return x.add(p, q, a[2]);
                case "late": return x.late(p, q, a[2]);
                case "would": return x.would(p, q, a[2]);
                case "merge": return x.merge(p);
                case "count": return x.count(p, q);
                case "block": return x.block(p, q, r);
                case "octet": return x.octet(p, q, r);
                case "fault": return x.fault(p, q, r);
                case "damage": return x.damage(p, q, r, s);
                case "has": return x.has(p, q);
                case "at": return x.at(p, q);
                case "nearest": return x.nearest(p, q);
                case "point": return x.point(p, q, r);
                case "span": return x.span(p, q, r, s);
                case "value": return x.value(p, q, r, s);
                case "above": return x.above(p, q, r, a[3]);
                case "ways": return x.ways(p, q);
                case "window": return x.window(p, q);
                case "gap": return x.gap(p, q);
                case "row": return x.row(p, q);
                case "both": return x.both(p, q, r);
                case "differ": return x.differ(p, q);
                case "best": return x.best(p);
                case "repack": return x.repack(p, q);
                case "thin": return x.thin(p, q);
                case "cuts": return x.cuts(p, q, r);
                case "join": return x.join(p, q, r);
                case "rounds": return x.rounds(p, q);
                case "rounded": return x.rounded(p, q);
                case "dearest": return x.dearest(p, q);
                case "where": return x.where(p, q);
                case "copy": return x.copy(p, q);
                case "mends": return x.mends(p, q);
                case "mend": return x.mend(p, q, r, s);
                case "seals": return x.seals(p);
                case "drops": return x.drops(p, q);
                case "least": return x.least(p, q, r, s);
                case "passes": return x.passes(p, a[1]);
                case "since": return x.since(p, q);
                case "area": return x.area(p, q, r);
                case "feed": return x.feed(p, q, r, s, (int) a[4]);
                case "end": return x.end(p);
                case "takes": return x.takes(p);
                case "taped": return x.taped();
                default: throw new IllegalStateException(name);
            }
        }
    }

    record P(int stamp, long bits) { }

    /** A text of 0s and 1s for the points behind the head, and what each of them took. */
    static final class Text {
        final StringBuilder all = new StringBuilder();
        final List<Integer> costs = new ArrayList<>();
        final List<Integer> classes = new ArrayList<>();
        final List<Integer> ways = new ArrayList<>();
        int ahead = -1;
        int behind = -1;
    }

    /** What a reading of a sealed block came to. */
    static final class Reading {
        int fault;
        int place = -1;
        final List<P> points = new ArrayList<>();
    }

    static final class MBlock {
        List<Integer> bytes = new ArrayList<>();
        boolean sealed;
        int first;
        int last;

        MBlock same() {
            MBlock b = new MBlock();
            b.bytes = new ArrayList<>(bytes);
            b.sealed = sealed;
            b.first = first;
            b.last = last;
            return b;
        }
    }

    static final class MSeries {
        int room;
        int last = -1;
        List<MBlock> blocks = new ArrayList<>();
        TreeMap<Integer, Long> late = new TreeMap<>();
        /** Points of the open block, if there is one. */
        List<P> open = new ArrayList<>();

        MSeries(int room) {
            this.room = room;
        }

        MSeries same() {
            MSeries s = new MSeries(room);
            s.last = last;
            for (MBlock b : blocks) {
                s.blocks.add(b.same());
            }
            s.late = new TreeMap<>(late);
            s.open = new ArrayList<>(open);
            return s;
        }
    }

    static final class Model {
        final MSeries[] series = new MSeries[4];
        final List<Integer> tape = new ArrayList<>();

        // ---- what the runs look at

        MSeries get(long s) {
            return s >= 0 && s < 4 ? series[(int) s] : null;
        }

        int blocks(int s) {
            return get(s) == null ? 0 : get(s).blocks.size();
        }

        int last(int s) {
            return get(s) == null ? 0 : get(s).last;
        }

        int far(int s) {
            if (get(s) == null || get(s).open.size() < 2) {
                return 0;
            }
            List<P> o = get(s).open;
            return o.get(o.size() - 1).stamp - o.get(o.size() - 2).stamp;
        }

        long lastBits(int s) {
            if (get(s) == null || get(s).open.isEmpty()) {
                return 0;
            }
            return get(s).open.get(get(s).open.size() - 1).bits;
        }

        MBlock blockOf(int s, long b) {
            return get(s) == null || b < 0 || b >= get(s).blocks.size() ? null : get(s).blocks.get((int) b);
        }

        TreeMap<Integer, Long> all(int s) {
            return get(s) == null ? null : points(get(s));
        }

        // ---- blocks

        static String low(long number, int width) {
            StringBuilder b = new StringBuilder();
            for (int i = width - 1; i >= 0; i--) {
                b.append(number >> i & 1);
            }
            return b.toString();
        }

        static int check(List<Integer> bytes, int n) {
            int c = 7;
            for (int i = 0; i < n; i++) {
                c = (31 * c + bytes.get(i)) % 251;
            }
            return c;
        }

        static String word(long x) {
            return low(x, 64);
        }

        static Text encode(List<P> points) {
            Text t = new Text();
            long difference = 0;
            for (int i = 1; i < points.size(); i++) {
                int before = t.all.length();
                long d = (long) points.get(i).stamp - points.get(i - 1).stamp;
                int c = classOf(d - difference);
                t.all.append(new String[] {"0", "10", "110", "1110", "1111"}[c]);
                t.all.append(low(d - difference, new int[] {0, 7, 9, 12, 32}[c]));
                difference = d;
                t.classes.add(c);
                t.ways.add(encodeValue(t, points.get(i).bits ^ points.get(i - 1).bits));
                t.costs.add(t.all.length() - before);
            }
            return t;
        }

        static int classOf(long second) {
            return second == 0 ? 0 : -63 <= second && second <= 64 ? 1 : -255 <= second && second <= 256 ? 2
                    : -2047 <= second && second <= 2048 ? 3 : 4;
        }

        static boolean mayByWindow(String x, int ahead, int behind) {
            int own = x.lastIndexOf('1') - x.indexOf('1') + 1;
            return ahead >= 0 && x.indexOf('1') >= ahead && 63 - x.lastIndexOf('1') >= behind
                    && 64 - ahead - behind <= own + 11;
        }

        static int encodeValue(Text t, long differing) {
            if (differing == 0) {
                t.all.append('0');
                return 5;
            }
            String x = word(differing);
            if (mayByWindow(x, t.ahead, t.behind)) {
                t.all.append("10").append(x, t.ahead, 64 - t.behind);
                return 6;
            }
            t.ahead = Math.min(31, x.indexOf('1'));
            t.behind = 63 - x.lastIndexOf('1');
            String own = x.substring(t.ahead, 64 - t.behind);
            t.all.append("11").append(low(t.ahead, 5)).append(low(own.length() - 1, 6)).append(own);
            return 7;
        }

        static List<Integer> bytesOf(List<P> points) {
            StringBuilder all = new StringBuilder();
            all.append(low(points.get(0).stamp, 32)).append(low(points.get(0).bits, 64)).append(low(points.size(), 16));
            all.append(encode(points).all);
            while (all.length() % 8 != 0) {
                all.append('0');
            }
            List<Integer> bytes = new ArrayList<>();
            for (int i = 0; i < all.length(); i += 8) {
                bytes.add(Integer.parseInt(all.substring(i, i + 8), 2));
            }
            return bytes;
        }

        static String bitsOf(List<Integer> bytes) {
            StringBuilder all = new StringBuilder();
            for (int b : bytes) {
                all.append(low(b, 8));
            }
            return all.toString();
        }

        /** Reads as the document says it, rule by rule. */
        static Reading read(MBlock b, boolean known) {
            Reading r = new Reading();
            int n = b.bytes.size();
            if (n < 15 || b.bytes.get(n - 1) != check(b.bytes, n - 1)) {
                r.fault = 1;
                return r;
            }
            String all = bitsOf(b.bytes.subList(0, n - 1));
            int count = Integer.parseInt(all.substring(96, 112), 2);
            if (count == 0) {
                r.fault = 5;
                r.place = 0;
                return r;
            }
            long stamp = Long.parseLong(all.substring(0, 32), 2);
            if (stamp > 2000000000L) {
                r.fault = 3;
                r.place = 0;
                return r;
            }
            r.points.add(new P((int) stamp, Long.parseUnsignedLong(all.substring(32, 96), 2)));
            new Decoder(all.substring(112), r).readAll(count);
            if (r.fault == 0 && known
                    && (r.points.get(0).stamp != b.first || r.points.get(r.points.size() - 1).stamp != b.last)) {
                r.fault = 7;
                r.place = 0;
            }
            return r;
        }

        static List<P> pointsOf(MSeries s, int b) {
            if (!s.blocks.get(b).sealed) {
                return s.open;
            }
            Reading r = read(s.blocks.get(b), true);
            return r.fault == 0 ? r.points : null;
        }

        static TreeMap<Integer, Long> points(MSeries s) {
            TreeMap<Integer, Long> all = new TreeMap<>();
            for (int b = 0; b < s.blocks.size(); b++) {
                List<P> points = pointsOf(s, b);
                if (points != null) {
                    for (P p : points) {
                        all.put(p.stamp, p.bits);
                    }
                }
            }
            all.putAll(s.late);
            return all;
        }

        static boolean isOpen(MSeries s) {
            return !s.blocks.isEmpty() && !s.blocks.get(s.blocks.size() - 1).sealed;
        }

        static void seal(MSeries s) {
            MBlock b = s.blocks.get(s.blocks.size() - 1);
            b.bytes.add(check(b.bytes, b.bytes.size()));
            b.sealed = true;
            b.first = s.open.get(0).stamp;
            b.last = s.open.get(s.open.size() - 1).stamp;
            s.open = new ArrayList<>();
        }

        static List<P> with(List<P> points, P p) {
            List<P> all = new ArrayList<>(points);
            all.add(p);
            return all;
        }

        static int put(MSeries s, int stamp, long bits) {
            P p = new P(stamp, bits);
            if (isOpen(s)) {
                List<Integer> bytes = bytesOf(with(s.open, p));
                if (bytes.size() + 1 <= s.room) {
                    s.open.add(p);
                    s.blocks.get(s.blocks.size() - 1).bytes = bytes;
                    s.last = stamp;
                    return s.blocks.size() - 1;
                }
            }
            if (s.blocks.size() == 16) {
                return -4;
            }
            if (isOpen(s)) {
                seal(s);
            }
            MBlock b = new MBlock();
            s.open = new ArrayList<>(List.of(p));
            b.bytes = bytesOf(s.open);
            s.blocks.add(b);
            s.last = stamp;
            return s.blocks.size() - 1;
        }

        /** Null if there were a 17th block. */
        static MSeries packed(Map<Integer, Long> points, int room) {
            MSeries s = new MSeries(room);
            for (Map.Entry<Integer, Long> e : points.entrySet()) {
                if (put(s, e.getKey(), e.getValue()) < 0) {
                    return null;
                }
            }
            return s;
        }

        static boolean anyBroken(MSeries s) {
            for (int b = 0; b < s.blocks.size(); b++) {
                if (pointsOf(s, b) == null) {
                    return true;
                }
            }
            return false;
        }

        static int bytes(MSeries s) {
            return s.blocks.stream().mapToInt(b -> b.bytes.size()).sum();
        }

        // ---- calls

        static boolean in(long x, long low, long high) {
            return low <= x && x <= high;
        }

        static boolean isStamp(long x) {
            return in(x, 0, 2000000000);
        }

        long call(String name, long[] a) {
            long s = a.length > 0 ? a[0] : -1;
            switch (name) {
                case "begins":
                    if (!in(s, 0, 3) || !in(a[1], 24, 200)) {
                        return -2;
                    }
                    series[(int) s] = new MSeries((int) a[1]);
                    return 0;
                case "feed":
                    if (tape.size() + 20 > 200) {
                        return -1;
                    }
                    for (long n : a) {
                        for (int shift = 24; shift >= 0; shift -= 8) {
                            tape.add((int) (n >> shift & 255));
                        }
                    }
                    return tape.size();
                case "end":
                    if (!in(s, 0, tape.size())) {
                        return -1;
                    }
                    tape.subList((int) s, tape.size()).clear();
                    return s;
                case "taped":
                    return tape.size();
                default:
                    break;
            }
            MSeries m = get(s);
            if (m == null) {
                return List.of("value", "least", "area").contains(name) ? NO_NUMBER
                        : name.equals("at") ? 0 : name.equals("point") ? -1 : -2;
            }
            switch (name) {
                case "add": case "late": case "would": return comes(name, m, (int) a[1], a[2]);
                case "block": case "octet": case "fault": case "damage": case "mends": case "mend": case "drops":
                    return blockCall(name, m, a);
                case "has": case "at": case "nearest": case "where": case "since":
                    return stampCall(name, m, a[1]);
                case "span": case "value": case "above": case "least": case "area":
                    return spanCall(name, m, a);
                case "both": case "differ": case "join": case "copy":
                    return pairCall(name, m, a);
                case "merge": case "repack": case "thin": case "cuts": case "rounds": case "rounded": case "best":
                    return packCall(name, m, a);
                default:
                    return seriesCall(name, m, a);
            }
        }

        static long comes(String name, MSeries m, int stamp, long bits) {
            if (!isStamp(stamp)) {
                return -2;
            }
            if (name.equals("late")) {
                if (stamp > m.last) {
                    return -5;
                }
                if (m.late.size() == 20 && !m.late.containsKey(stamp)) {
                    return -4;
                }
                m.late.put(stamp, bits);
                return m.late.size();
            }
            if (stamp <= m.last) {
                return -5;
            }
            if (name.equals("add")) {
                return put(m, stamp, bits);
            }
            if (!isOpen(m)) {
                return 0;
            }
            List<P> all = with(m.open, new P(stamp, bits));
            return bytesOf(all).size() + 1 > m.room ? 0 : encode(all).costs.get(m.open.size() - 1);
        }

        static long blockCall(String name, MSeries m, long[] a) {
            if (!in(a[1], 0, m.blocks.size() - 1)) {
                return -2;
            }
            int index = (int) a[1];
            MBlock b = m.blocks.get(index);
            List<P> points = pointsOf(m, index);
            long i = a.length > 2 ? a[2] : 0;
            switch (name) {
                case "block":
                    if (!in(i, 0, 5)) {
                        return -2;
                    }
                    if (i == 3) {
                        return b.bytes.size();
                    }
                    if (i == 5) {
                        return b.sealed ? 1 : 0;
                    }
                    if (points == null) {
                        return -6;
                    }
                    return i == 0 ? points.get(0).stamp : i == 1 ? points.get(points.size() - 1).stamp
                            : i == 2 ? points.size() : encode(points).all.length();
                case "octet":
                    return in(i, 0, b.bytes.size() - 1) ? b.bytes.get((int) i) : -1;
                case "fault":
                    if (!in(i, 0, 1)) {
                        return -2;
                    }
                    Reading r = b.sealed ? read(b, true) : new Reading();
                    return i == 0 ? r.fault : r.place;
                case "damage":
                    if (!in(i, 0, b.bytes.size() - 1) || !in(a[3], 0, 255)) {
                        return -2;
                    }
                    return b.sealed ? b.bytes.set((int) i, (int) a[3]) : -5;
                case "drops":
                    m.blocks.remove(index);
                    if (!b.sealed) {
                        m.open = new ArrayList<>();
                    }
                    return m.blocks.size();
                case "mends":
                    return points != null ? 0 : mends(b).size();
                default:
                    if (!in(a[3], 0, 1)) {
                        return -2;
                    }
                    List<int[]> all = points != null ? List.of() : mends(b);
                    return in(i, 0, all.size() - 1) ? all.get((int) i)[(int) a[3]] : -1;
            }
        }

        static List<int[]> mends(MBlock b) {
            List<int[]> found = new ArrayList<>();
            int n = b.bytes.size();
            MBlock other = b.same();
            for (int i = 0; i < n; i++) {
                for (int to = 0; to < 256; to++) {
                    other.bytes.set(i, to);
                    if (to != b.bytes.get(i) && read(other, true).fault == 0) {
                        found.add(new int[] {i, to});
                    }
                }
                other.bytes.set(i, b.bytes.get(i));
            }
            return found;
        }

        static long stampCall(String name, MSeries m, long stamp) {
            if (!isStamp(stamp)) {
                return name.equals("at") ? 0 : -2;
            }
            int t = (int) stamp;
            TreeMap<Integer, Long> all = points(m);
            switch (name) {
                case "has": return all.containsKey(t) ? 1 : 0;
                case "at": return all.getOrDefault(t, 0L);
                case "since": return all.floorKey(t) == null ? -1 : all.floorKey(t);
                case "nearest":
                    long best = -1;
                    for (int k : all.keySet()) {
                        if (best < 0 || Math.abs((long) k - t) < Math.abs(best - t)) {
                            best = k;
                        }
                    }
                    return best;
                default:
                    if (m.late.containsKey(t)) {
                        return -1;
                    }
                    for (int b = 0; b < m.blocks.size(); b++) {
                        List<P> points = pointsOf(m, b);
                        if (points != null && points.stream().anyMatch(p -> p.stamp == t)) {
                            return b;
                        }
                    }
                    return -1;
            }
        }

        static double number(long bits) {
            return Double.longBitsToDouble(bits);
        }

        static long told(double sum) {
            return Double.isNaN(sum) ? NO_NUMBER : Double.doubleToRawLongBits(sum);
        }

        static long spanCall(String name, MSeries m, long[] a) {
            boolean bits = name.equals("value") || name.equals("least") || name.equals("area");
            if (a[1] > a[2]) {
                return bits ? NO_NUMBER : -2;
            }
            TreeMap<Integer, Long> all = new TreeMap<>(points(m).subMap((int) a[1], true, (int) a[2], true));
            List<Long> numbers = new ArrayList<>();
            for (long v : all.values()) {
                if (!Double.isNaN(number(v))) {
                    numbers.add(v);
                }
            }
            switch (name) {
                case "span": return spanned(m, all, a);
                case "value": return valued(numbers, a[3]);
                case "above":
                    if (Double.isNaN(number(a[3]))) {
                        return -1;
                    }
                    return numbers.stream().filter(v -> number(v) > number(a[3])).count();
                case "least":
                    numbers.sort((x, y) -> number(x) < number(y) ? -1 : number(x) > number(y) ? 1 : 0);
                    return in(a[3], 0, numbers.size() - 1) ? numbers.get((int) a[3]) : NO_NUMBER;
                default:
                    double sum = 0.0;
                    for (Map.Entry<Integer, Long> e : all.entrySet()) {
                        Integer next = all.higherKey(e.getKey());
                        if (next != null && !Double.isNaN(number(e.getValue()))) {
                            sum += number(e.getValue()) * (double) (next - e.getKey());
                        }
                    }
                    return told(sum);
            }
        }

        static long spanned(MSeries m, TreeMap<Integer, Long> all, long[] a) {
            switch ((int) a[3]) {
                case 0: return all.size();
                case 1:
                    int opened = 0;
                    for (int b = 0; b < m.blocks.size(); b++) {
                        List<P> points = pointsOf(m, b);
                        if (points != null && points.get(0).stamp <= a[2]
                                && points.get(points.size() - 1).stamp >= a[1]) {
                            opened++;
                        }
                    }
                    return opened;
                case 2: return all.isEmpty() ? -1 : all.firstKey();
                case 3: return all.isEmpty() ? -1 : all.lastKey();
                case 4: return all.values().stream().filter(v -> Double.isNaN(number(v))).count();
                case 5: return all.values().stream().filter(v -> v == Long.MIN_VALUE).count();
                case 6: return all.values().stream().filter(v -> Double.isInfinite(number(v))).count();
                default: return -2;
            }
        }

        static long valued(List<Long> numbers, long what) {
            if (numbers.isEmpty() || !in(what, 0, 4)) {
                return NO_NUMBER;
            }
            long least = numbers.get(0);
            long greatest = numbers.get(0);
            double sum = 0.0;
            for (long v : numbers) {
                least = number(v) < number(least) ? v : least;
                greatest = number(v) > number(greatest) ? v : greatest;
                sum += number(v);
            }
            return what == 0 ? numbers.get(0) : what == 1 ? numbers.get(numbers.size() - 1)
                    : what == 2 ? least : what == 3 ? greatest : told(sum);
        }

        long pairCall(String name, MSeries m, long[] a) {
            if (name.equals("copy")) {
                if (!in(a[1], 0, 3)) {
                    return -2;
                }
                series[(int) a[1]] = m.same();
                return 0;
            }
            MSeries o = get(a[1]);
            if (o == null) {
                return -2;
            }
            TreeMap<Integer, Long> one = points(m);
            TreeMap<Integer, Long> two = points(o);
            switch (name) {
                case "both":
                    if (!in(a[2], 0, 1)) {
                        return -2;
                    }
                    return one.keySet().stream().filter(k -> two.containsKey(k)
                            && (a[2] == 0 || one.get(k).longValue() == two.get(k).longValue())).count();
                case "differ":
                    TreeSet<Integer> keys = new TreeSet<>(one.keySet());
                    keys.addAll(two.keySet());
                    for (int k : keys) {
                        if (!one.containsKey(k) || !one.get(k).equals(two.get(k))) {
                            return k;
                        }
                    }
                    return -1;
                default:
                    if (!in(a[2], 0, 3)) {
                        return -2;
                    }
                    if (anyBroken(m) || anyBroken(o)) {
                        return -6;
                    }
                    two.putAll(one);
                    MSeries joined = packed(two, m.room);
                    if (joined == null) {
                        return -4;
                    }
                    series[(int) a[2]] = joined;
                    return joined.blocks.size();
            }
        }

        long packCall(String name, MSeries m, long[] a) {
            TreeMap<Integer, Long> all = points(m);
            int before = all.size();
            int room = m.room;
            int changed = 0;
            boolean bad = name.equals("repack") ? !in(a[1], 24, 200) : name.equals("thin") ? !in(a[1], 1, 1000000)
                    : name.equals("cuts") ? a[1] > a[2] : name.startsWith("round") && !in(a[1], 1, 52);
            if (bad) {
                return -2;
            }
            if (anyBroken(m)) {
                return -6;
            }
            switch (name) {
                case "best":
                    int chosen = -1;
                    int fewest = Integer.MAX_VALUE;
                    for (int r = 24; r <= 200; r++) {
                        MSeries p = packed(all, r);
                        if (p != null && bytes(p) < fewest) {
                            fewest = bytes(p);
                            chosen = r;
                        }
                    }
                    return chosen;
                case "repack":
                    room = (int) a[1];
                    break;
                case "thin":
                    TreeSet<Long> had = new TreeSet<>();
                    all.keySet().removeIf(k -> !had.add(k / a[1]));
                    break;
                case "cuts":
                    all.keySet().removeIf(k -> in(k, a[1], a[2]));
                    break;
                case "rounds": case "rounded":
                    for (Map.Entry<Integer, Long> e : all.entrySet()) {
                        long v = e.getValue();
                        if (!Double.isNaN(number(v)) && !Double.isInfinite(number(v))) {
                            long w = v >> a[1] << a[1];
                            changed += v != w ? 1 : 0;
                            e.setValue(w);
                        }
                    }
                    break;
                default:
                    break;
            }
            MSeries p = packed(all, room);
            if (p == null) {
                return -4;
            }
            if (name.equals("rounded")) {
                return bytes(p);
            }
            series[(int) a[0]] = p;
            return name.equals("rounds") ? changed
                    : name.equals("thin") || name.equals("cuts") ? before - all.size() : p.blocks.size();
        }

        long seriesCall(String name, MSeries m, long[] a) {
            long what = a.length > 1 ? a[1] : 0;
            List<Text> texts = new ArrayList<>();
            int inSound = 0;
            int broken = 0;
            int dearest = 0;
            int dearestStamp = -1;
            int way = 0;
            for (int b = 0; b < m.blocks.size(); b++) {
                List<P> points = pointsOf(m, b);
                if (points == null) {
                    broken |= 1 << b;
                    continue;
                }
                inSound += points.size();
                Text t = encode(points);
                for (int i = 1; i < points.size(); i++) {
                    if (t.costs.get(i - 1) > dearest) {
                        dearest = t.costs.get(i - 1);
                        dearestStamp = points.get(i).stamp;
                    }
                    way += (what < 5 ? t.classes : t.ways).get(i - 1) == what ? 1 : 0;
                }
            }
            TreeMap<Integer, Long> all = points(m);
            switch (name) {
                case "count":
                    if (!in(what, 0, 7)) {
                        return -2;
                    }
                    return new int[] {m.room, inSound, m.blocks.size(), m.late.size(), bytes(m), broken, all.size(),
                        m.last}[(int) what];
                case "ways":
                    return in(what, 0, 7) ? way : -2;
                case "dearest":
                    return !in(what, 0, 1) ? -2 : dearestStamp < 0 ? -1 : what == 0 ? dearestStamp : dearest;
                case "window":
                    if (!in(what, 0, 1)) {
                        return -2;
                    }
                    Text t = isOpen(m) ? encode(m.open) : new Text();
                    return what == 0 ? t.ahead : t.behind;
                case "point":
                    if (!in(a[2], 0, 1) || !in(what, 0, all.size() - 1)) {
                        return -1;
                    }
                    List<Map.Entry<Integer, Long>> list = new ArrayList<>(all.entrySet());
                    return a[2] == 0 ? list.get((int) what).getKey() : list.get((int) what).getValue();
                case "seals":
                    if (!isOpen(m)) {
                        return -5;
                    }
                    seal(m);
                    return m.blocks.get(m.blocks.size() - 1).bytes.size();
                case "takes":
                    return takes(m);
                default:
                    return rowCall(name, all, what);
            }
        }

        static long rowCall(String name, TreeMap<Integer, Long> all, long what) {
            if (!name.equals("passes") && !in(what, 0, 1)) {
                return -2;
            }
            List<Integer> stamps = new ArrayList<>(all.keySet());
            List<Long> values = new ArrayList<>(all.values());
            int n = stamps.size();
            int best = 0;
            switch (name) {
                case "gap":
                    int from = -1;
                    for (int i = 0; i + 1 < n; i++) {
                        if (stamps.get(i + 1) - stamps.get(i) > best) {
                            best = stamps.get(i + 1) - stamps.get(i);
                            from = stamps.get(i);
                        }
                    }
                    return what == 1 || from < 0 ? from : best;
                case "row":
                    for (int i = 0; i < n; i++) {
                        int j = i;
                        if (what == 0) {
                            while (j < n && values.get(j).equals(values.get(i))) {
                                j++;
                            }
                        } else {
                            while (j < n && !Double.isNaN(number(values.get(j)))
                                    && (j == i || number(values.get(j)) > number(values.get(j - 1)))) {
                                j++;
                            }
                        }
                        best = Math.max(best, j - i);
                    }
                    return best;
                case "passes":
                    double x = number(what);
                    if (Double.isNaN(x)) {
                        return -1;
                    }
                    for (int i = 0; i + 1 < n; i++) {
                        double p = number(values.get(i));
                        double q = number(values.get(i + 1));
                        best += p < x && q >= x || q < x && p >= x ? 1 : 0;
                    }
                    return best;
                default:
                    throw new IllegalStateException(name);
            }
        }

        long takes(MSeries m) {
            MBlock b = new MBlock();
            b.bytes = new ArrayList<>(tape);
            b.sealed = true;
            tape.clear();
            Reading r = read(b, false);
            if (r.fault != 0) {
                return -10 - r.fault;
            }
            if (b.bytes.size() > m.room) {
                return -3;
            }
            b.first = r.points.get(0).stamp;
            b.last = r.points.get(r.points.size() - 1).stamp;
            if (b.first <= m.last) {
                return -5;
            }
            if (m.blocks.size() == 16) {
                return -4;
            }
            if (isOpen(m)) {
                seal(m);
            }
            m.blocks.add(b);
            m.last = b.last;
            return m.blocks.size() - 1;
        }
    }

    static final class Decoder {
        final String text;
        final Reading r;
        int at = 0;
        int ahead = -1;
        int behind = -1;
        long difference = 0;

        Decoder(String text, Reading r) {
            this.text = text;
            this.r = r;
        }

        static final class End extends RuntimeException {
            private static final long serialVersionUID = 1;
        }

        String take(int n) {
            if (at + n > text.length()) {
                throw new End();
            }
            at += n;
            return text.substring(at - n, at);
        }

        void readAll(int count) {
            for (int i = 1; i < count; i++) {
                int begin = at;
                int fault;
                try {
                    fault = readPoint();
                } catch (End e) {
                    fault = 2;
                }
                if (fault != 0) {
                    r.fault = fault;
                    r.place = begin;
                    return;
                }
            }
            if (text.length() - at > 7 || text.indexOf('1', at) >= 0) {
                r.fault = 6;
                r.place = at;
            }
        }

        int readPoint() {
            int c = 0;
            while (c < 4 && take(1).equals("1")) {
                c++;
            }
            int width = new int[] {0, 7, 9, 12, 32}[c];
            long second = width == 0 ? 0 : Long.parseLong(take(width), 2);
            if (width > 0 && second > 1L << width - 1) {
                second -= 1L << width;
            }
            boolean form = Model.classOf(second) == c;
            P p = r.points.get(r.points.size() - 1);
            String x = "";
            if (take(1).equals("1")) {
                if (take(1).equals("0")) {
                    if (ahead < 0) {
                        form = false;
                    } else {
                        x = "0".repeat(ahead) + take(64 - ahead - behind) + "0".repeat(behind);
                        form &= x.indexOf('1') >= 0 && Model.mayByWindow(x, ahead, behind);
                    }
                } else {
                    int zeros = Integer.parseInt(take(5), 2);
                    int n = Integer.parseInt(take(6), 2) + 1;
                    String own = take(n);
                    if (zeros + n > 64) {
                        form = false;
                    } else {
                        x = "0".repeat(zeros) + own + "0".repeat(64 - zeros - n);
                        form &= own.endsWith("1") && (zeros == 31 || own.startsWith("1"))
                                && !Model.mayByWindow(x, ahead, behind);
                        ahead = zeros;
                        behind = 64 - zeros - n;
                    }
                }
            }
            difference += second;
            long stamp = p.stamp + difference;
            if (stamp <= p.stamp || stamp > 2000000000L) {
                return 3;
            }
            if (!form) {
                return 4;
            }
            r.points.add(new P((int) stamp, p.bits ^ (x.isEmpty() ? 0 : Long.parseUnsignedLong(x, 2))));
            return 0;
        }
    }
}
