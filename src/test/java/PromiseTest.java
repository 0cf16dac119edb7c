import java.util.ArrayList;
import java.util.List;

/** The promises 1 to 46 of the document, sentence by sentence. */
public final class PromiseTest extends DocumentTest {
    static final String NO_SUCH = "-2: there are none such.";
    static final String NO_SUCH_AND = "-2: there are none such;";

    public static void main(String[] args) throws Exception {
        reads("Promise ");
        newObject();
        begins();
        add();
        late();
        would();
        merge();
        count();
        block();
        octet();
        fault();
        damage();
        has();
        at();
        nearest();
        point();
        span();
        value();
        above();
        ways();
        window();
        gap();
        row();
        both();
        differ();
        best();
        repack();
        thin();
        cuts();
        join();
        rounds();
        rounded();
        dearest();
        where();
        copy();
        mends();
        mend();
        seals();
        drops();
        least();
        passes();
        since();
        area();
        feed();
        end();
        takes();
        taped();
        ends();
    }

    /** What are no "what"s where so many are. */
    static int[] notBelow(int many) {
        return new int[] {-1, many, LEAST_INT, GREATEST_INT};
    }

    // ---- 1 to 6

    static void newObject() {
        section("Promise 1: A new object");
        says("SERIES 0 .. 3 are none.", () -> {
            for (int s = 0; s < 4; s++) {
                dueNone(new SeriesPress(), s);
            }
            SeriesPress x = new SeriesPress();
            x.begins(2, 24);
            for (int s : new int[] {0, 1, 3}) {
                due("beside one that is begun", x.count(s, 0), -2);
            }
        });
    }

    static void dueNone(SeriesPress x, int s) {
        due("add", x.add(s, 0, 0), -2);
        due("late", x.late(s, 0, 0), -2);
        due("would", x.would(s, 0, 0), -2);
        due("merge", x.merge(s), -2);
        for (int what = 0; what < 8; what++) {
            due("count", x.count(s, what), -2);
            due("ways", x.ways(s, what), -2);
        }
        due("block", x.block(s, 0, 0), -2);
        due("octet", x.octet(s, 0, 0), -2);
        due("fault", x.fault(s, 0, 0), -2);
        due("damage", x.damage(s, 0, 0, 0), -2);
        due("has", x.has(s, 0), -2);
        due("at", x.at(s, 0), 0);
        due("nearest", x.nearest(s, 0), -2);
        due("point", x.point(s, 0, 0), NONE);
        due("span", x.span(s, 0, 9, 0), -2);
        due("value", x.value(s, 0, 9, 0), NO_NUMBER);
        due("above", x.above(s, 0, 9, 0), -2);
        due("window", x.window(s, 0), -2);
        due("gap", x.gap(s, 0), -2);
        due("row", x.row(s, 0), -2);
        due("both", x.both(s, s, 0), -2);
        due("differ", x.differ(s, s), -2);
        due("best", x.best(s), -2);
        due("repack", x.repack(s, 24), -2);
        due("thin", x.thin(s, 1), -2);
        due("cuts", x.cuts(s, 0, 9), -2);
        due("join", x.join(s, s, s), -2);
        due("rounds", x.rounds(s, 1), -2);
        due("rounded", x.rounded(s, 1), -2);
        due("dearest", x.dearest(s, 0), -2);
        due("where", x.where(s, 0), -2);
        due("copy", x.copy(s, s), -2);
        due("mends", x.mends(s, 0), -2);
        due("mend", x.mend(s, 0, 0, 0), -2);
        due("seals", x.seals(s), -2);
        due("drops", x.drops(s, 0), -2);
        due("least", x.least(s, 0, 9, 0), NO_NUMBER);
        due("passes", x.passes(s, 0), -2);
        due("since", x.since(s, 0), -2);
        due("area", x.area(s, 0, 9), NO_NUMBER);
        due("takes", x.takes(s), -2);
        due("taped", x.taped(), 0);
    }

    static void begins() {
        section("Promise 2: begins");
        says("A SERIES is begun (in place of another one): without POINTS, ROOM (24 .. 200): 0.", () -> {
            SeriesPress x = new SeriesPress();
            int[] rooms = {24, 25, 199, 200};
            for (int s = 0; s < 4; s++) {
                due("room " + rooms[s], x.begins(s, rooms[s]), 0);
                due("its room", x.count(s, 0), rooms[s]);
                due("points", x.count(s, 6), 0);
                due("blocks", x.count(s, 2), 0);
                due("last", x.count(s, 7), NONE);
            }
        });
        says("(in place of another one)", () -> {
            SeriesPress x = spoilt();
            x.add(0, 21, -1);
            x.copy(0, 1);
            String other = look(x, 1);
            due("again", x.begins(0, 30), 0);
            dueText("as a new one", look(x, 0), look(begun(30), 0));
            dueText("the other one stays", look(x, 1), other);
            due("any stamp comes", x.add(0, 0, 0), 0);
            due("and is a head", x.block(0, 0, 4), 0);
            SeriesPress y = holding(sealed(0, 5, 256, "10 0000001 0"));
            due("broken at a place", y.fault(0, 0, 1), 16);
            y.begins(0, 24);
            y.add(0, 0, 0);
            due("no place is left", y.fault(0, 0, 1), NONE);
            due("no fault is left", y.fault(0, 0, 0), 0);
            due("no count is left", y.octet(0, 0, 12), 0);
        });
        says(NO_SUCH, () -> {
            for (int s : new int[] {-1, 4, LEAST_INT, GREATEST_INT}) {
                SeriesPress x = single(2);
                stays("series " + s, x, () -> x.begins(s, 24), -2);
            }
            for (int room : NO_ROOMS) {
                SeriesPress x = single(2);
                stays("room " + room, x, () -> x.begins(0, room), -2);
                stays("room " + room + " of none", x, () -> x.begins(1, room), -2);
            }
        });
    }

    static void add() {
        section("Promise 3: add");
        says("A POINT comes behind all: the BLOCK in which it is.", () -> {
            SeriesPress x = begun(24);
            due("the first", x.add(0, 0, 7), 0);
            due("another", x.add(0, 1, 7), 0);
            due("one that does not fit", x.add(0, 2, MINUS_ZERO | 1), 1);
            due("behind a sealed one", x.seals(0) > 0 ? x.add(0, 3, 7) : 0, 2);
            due("it is the last", x.point(0, 3, 0), 3);
            due("with its bits", x.point(0, 3, 1), 7);
            x.drops(0, 0);
            due("in the open one, which is 1 now", x.add(0, 4, 7), 1);
            x.drops(0, 1);
            due("behind a sealed one again", x.add(0, 5, 7), 1);
        });
        says(NO_SUCH_AND, () -> {
            SeriesPress x = begun(24);
            x.add(0, 5, 5);
            for (int s : NO_SERIES) {
                stays("series " + s, x, () -> x.add(s, 6, 0), -2);
            }
            for (int stamp : NO_STAMPS) {
                stays("stamp " + stamp, x, () -> x.add(0, stamp, 0), -2);
            }
        });
        says("-5: its stamp is not above LAST;", () -> {
            SeriesPress x = begun(24);
            x.add(0, 5, 5);
            stays("it is LAST", x, () -> x.add(0, 5, 6), -5);
            stays("it is below", x, () -> x.add(0, 4, 6), -5);
            due("it is above", x.add(0, 6, 6), 0);
            tape(x, sealed(7, 5, 2, "10 0000010 0"));
            x.takes(0);
            stays("LAST of what came", x, () -> x.add(0, 9, 6), -5);
            x.drops(0, 1);
            stays("LAST of what is gone", x, () -> x.add(0, 9, 6), -5);
            due("above that", x.add(0, 10, 6), 1);
            SeriesPress y = single(16);
            stays("ahead of -4", y, () -> y.add(0, 15000000, 1), -5);
            SeriesPress z = begun(24);
            z.add(0, MAX, -1);
            stays("LAST is 2000000000", z, () -> z.add(0, MAX, 1), -5);
        });
        says("-4: there would be a 17th BLOCK.", () -> {
            SeriesPress x = single(16);
            stays("the 16th is too full", x, () -> x.add(0, 16000000, 1), -4);
            due("it is open", x.block(0, 15, 5), 0);
            due("a smaller one goes into it", x.add(0, 15000001, -1), 15);
            SeriesPress y = single(16);
            y.seals(0);
            stays("the 16th is sealed", y, () -> y.add(0, 15000001, -1), -4);
            y.drops(0, 15);
            due("one is gone", y.add(0, 15000001, -1), 15);
        });
    }

    static void late() {
        section("Promise 4: late");
        says("A LATE POINT comes (in place of one of that stamp, LATE or not): how many are LATE.", () -> {
            SeriesPress x = begun(24);
            x.add(0, 10, 1);
            x.add(0, 20, 2);
            due("the first", x.late(0, 15, 3), 1);
            due("stamp 0", x.late(0, 0, 4), 2);
            due("points", x.count(0, 6), 4);
            due("in place of a late one", x.late(0, 15, 5), 2);
            due("its bits", x.at(0, 15), 5);
            String bytes = bytesOf(x, 0, 0).toString();
            due("in place of one that is not", x.late(0, 10, 6), 3);
            due("its bits", x.at(0, 10), 6);
            due("in place of LAST", x.late(0, 20, 7), 4);
            due("its bits", x.at(0, 20), 7);
            due("points as before", x.count(0, 6), 4);
            due("late ones", x.count(0, 3), 4);
            dueText("the block is as it was", bytesOf(x, 0, 0).toString(), bytes);
        });
        says(NO_SUCH_AND, () -> {
            SeriesPress x = begun(24);
            x.add(0, 5, 5);
            for (int s : NO_SERIES) {
                stays("series " + s, x, () -> x.late(s, 5, 0), -2);
            }
            for (int stamp : NO_STAMPS) {
                stays("stamp " + stamp, x, () -> x.late(0, stamp, 0), -2);
            }
        });
        says("-5: its stamp is above LAST, there is no LAST;", () -> {
            SeriesPress x = begun(24);
            stays("there is no LAST", x, () -> x.late(0, 0, 0), -5);
            x.add(0, 5, 5);
            stays("it is above", x, () -> x.late(0, 6, 0), -5);
            stays("it is far above", x, () -> x.late(0, MAX, 0), -5);
            due("it is LAST", x.late(0, 5, 0), 1);
            x.drops(0, 0);
            due("LAST stays without its block", x.late(0, 5, 1), 1);
            x.cuts(0, 0, MAX);
            stays("there is no LAST any more", x, () -> x.late(0, 0, 0), -5);
        });
        says("-4: there would be a 21st one.", () -> {
            SeriesPress x = begun(24);
            x.add(0, 100, 0);
            for (int i = 0; i < 20; i++) {
                x.late(0, 2 * i, 0);
            }
            stays("another stamp", x, () -> x.late(0, 1, 0), -4);
            stays("one that is in a block", x, () -> x.late(0, 100, 0), -4);
            stays("-5 ahead of it", x, () -> x.late(0, 101, 0), -5);
            due("in place of a late one", x.late(0, 38, 9), 20);
            due("it is there", x.at(0, 38), 9);
            x.merge(0);
            due("none is late then", x.late(0, 1, 0), 1);
        });
    }

    static void would() {
        section("Promise 5: would");
        says("How many bits a POINT would take behind all in the open BLOCK (HEAD: 0), where it is put if it were to come"
                + " now.", () -> {
            SeriesPress x = begun(24);
            stays("a head, there are no blocks", x, () -> x.would(0, 0, 0), 0);
            x.add(0, 0, 0);
            stays("stamp by class 1, the same", x, () -> x.would(0, 64, 0), 10);
            stays("stamp by class 2", x, () -> x.would(0, 65, 0), 13);
            stays("stamp by class 3", x, () -> x.would(0, 257, 0), 17);
            stays("stamp by class 4", x, () -> x.would(0, MAX, 0), 37);
            stays("a value anew", x, () -> x.would(0, 1, 1L << 40), 9 + 13 + 1);
            stays("just as many as there is room for", x, () -> x.would(0, 1, 1L << 63 | 1L << 14), 72);
            stays("a head, as it does not fit", x, () -> x.would(0, 1, 1L << 63 | 1L << 13), 0);
            x.add(0, 1, 0xfL << 60);
            stays("stamp by class 0, the same", x, () -> x.would(0, 2, 0xfL << 60), 2);
            stays("a value by the window", x, () -> x.would(0, 2, 0), 1 + 2 + 4);
            x.seals(0);
            stays("a head, none is open", x, () -> x.would(0, 2, 0), 0);
            SeriesPress y = single(16);
            stays("a head, though add() would refuse it", y, () -> y.would(0, 16000000, 1), 0);
        });
        says("-2: there are none such; -5 as add().", () -> {
            SeriesPress x = begun(24);
            x.add(0, 5, 5);
            for (int s : NO_SERIES) {
                due("series " + s, x.would(s, 6, 0), -2);
            }
            for (int stamp : NO_STAMPS) {
                due("stamp " + stamp, x.would(0, stamp, 0), -2);
            }
            due("it is LAST", x.would(0, 5, 0), -5);
            due("it is below", x.would(0, 0, 0), -5);
            x.drops(0, 0);
            due("LAST is gone", x.would(0, 5, 0), -5);
            due("above that", x.would(0, 6, 0), 0);
        });
    }

    static void merge() {
        section("Promise 6: merge");
        says("All POINTS, LATE ones among them, are PACKED anew: how many BLOCKS.", () -> {
            SeriesPress x = begun(24);
            due("without points", x.merge(0), 0);
            SeriesPress y = begun(24);
            for (int i = 0; i < 6; i++) {
                x.add(0, 10 * i, d(i));
                x.seals(0);
            }
            x.late(0, 5, d(1));
            x.late(0, 10, d(9));
            y.add(0, 0, d(0));
            y.add(0, 5, d(1));
            y.add(0, 10, d(9));
            for (int i = 2; i < 6; i++) {
                y.add(0, 10 * i, d(i));
            }
            due("blocks", x.merge(0), y.count(0, 2));
            dueText("as if they were added", look(x), look(y));
            due("none is late", x.count(0, 3), 0);
            SeriesPress z = begun(24);
            z.add(0, 9, 1);
            z.late(0, 4, 2);
            z.drops(0, 0);
            due("a late one alone", z.merge(0), 1);
            due("is in a block", z.where(0, 4), 0);
            SeriesPress full = single(16);
            due("sixteen blocks", full.merge(0), 16);
            SeriesPress two = two();
            String first = look(two, 0);
            String second = look(two, 1);
            due("one series", two.merge(0), 1);
            due("another one", two.merge(1), two.count(1, 2));
            dueText("the first is as it was", look(two, 0), first);
            dueText("the second is as it was", look(two, 1), second);
        });
        says("-2: there is no such SERIES;", () -> {
            SeriesPress x = begun(24);
            for (int s : NO_SERIES) {
                due("series " + s, x.merge(s), -2);
            }
        });
        says("-6: a BLOCK is BROKEN;", () -> {
            for (int b = 0; b < 3; b++) {
                SeriesPress x = single(3);
                x.late(0, 5, 0);
                x.seals(0);
                x.damage(0, b, 14, 255);
                stays("block " + b, x, () -> x.merge(0), -6);
                x.drops(0, b);
                due("it is gone", x.merge(0) > 0 ? 1 : 0, 1);
            }
        });
        says("-4: there would be a 17th BLOCK (nothing happens).", () -> {
            SeriesPress x = single(16);
            x.late(0, 1, MINUS_ZERO);
            stays("a late one more", x, () -> x.merge(0), -4);
            due("the open one is open", x.add(0, 15000001, -1), 15);
            SeriesPress y = single(16);
            y.merge(0);
            y.late(0, 1, MINUS_ZERO);
            stays("behind one that went well", y, () -> y.merge(0), -4);
        });
    }

    // ---- 7 to 11

    /** Three blocks (two points, one, one that is open) and late points in place of one and beside them. */
    static SeriesPress three() {
        SeriesPress x = begun(30);
        x.add(0, 0, 5);
        x.add(0, 2, 5);
        x.seals(0);
        x.add(0, 4, 5);
        x.seals(0);
        x.add(0, 6, 5);
        x.late(0, 2, 6);
        x.late(0, 3, 6);
        return x;
    }

    static void count() {
        section("Promise 7: count");
        says("0 ROOM,", () -> {
            due("30", three().count(0, 0), 30);
            due("200", begun(200).count(0, 0), 200);
        });
        says("1 POINTS of BLOCKS that are SOUND,", () -> {
            SeriesPress x = three();
            due("all, the open one's too, late ones aside", x.count(0, 1), 4);
            x.damage(0, 0, 0, 1);
            due("one is broken", x.count(0, 1), 2);
            x.damage(0, 1, 0, 1);
            due("two are broken", x.count(0, 1), 1);
            x.drops(0, 2);
            due("all are broken", x.count(0, 1), 0);
            due("no blocks", begun(24).count(0, 1), 0);
        });
        says("2 BLOCKS,", () -> {
            SeriesPress x = three();
            x.damage(0, 0, 0, 1);
            due("broken and open ones too", x.count(0, 2), 3);
            due("none", begun(24).count(0, 2), 0);
            due("16", single(16).count(0, 2), 16);
        });
        says("3 LATE ones,", () -> {
            due("two", three().count(0, 3), 2);
            due("none", begun(24).count(0, 3), 0);
        });
        says("4 bytes of all BLOCKS,", () -> {
            SeriesPress x = three();
            due("two with a check, one without", x.count(0, 4), 17 + 15 + 14);
            x.damage(0, 0, 0, 1);
            due("a broken one too", x.count(0, 4), 46);
            due("none", begun(24).count(0, 4), 0);
        });
        says("5 BROKEN ones, as bits,", () -> {
            SeriesPress x = three();
            due("none", x.count(0, 5), 0);
            x.damage(0, 1, 0, 1);
            due("the second", x.count(0, 5), 2);
            x.damage(0, 0, 0, 1);
            due("both", x.count(0, 5), 3);
            x.drops(0, 0);
            due("it has become the first", x.count(0, 5), 1);
            SeriesPress y = single(16);
            y.seals(0);
            y.damage(0, 15, 0, 1);
            due("the last of 16", y.count(0, 5), 1 << 15);
            for (int b = 0; b < 16; b++) {
                y.damage(0, b, 14, 255);
            }
            due("all of 16", y.count(0, 5), 65535);
        });
        says("6 POINTS (II),", () -> {
            SeriesPress x = three();
            due("late ones beside them, not those in place", x.count(0, 6), 5);
            x.damage(0, 0, 0, 1);
            due("the late ones of a broken one", x.count(0, 6), 4);
            due("none", begun(24).count(0, 6), 0);
        });
        says("7 LAST (NONE).", () -> {
            due("6", three().count(0, 7), 6);
            due("none", begun(24).count(0, 7), NONE);
            SeriesPress x = begun(24);
            x.add(0, MAX, 0);
            due("2000000000", x.count(0, 7), MAX);
        });
        says(NO_SUCH, () -> {
            SeriesPress x = begun(24);
            for (int what : notBelow(8)) {
                due("what " + what, x.count(0, what), -2);
            }
            for (int s : NO_SERIES) {
                due("series " + s, x.count(s, 0), -2);
            }
        });
    }

    static void block() {
        section("Promise 8: block");
        says("Of a BLOCK, what 0: its first stamp, 1: its last one, 2: POINTS, 3: bytes,", () -> {
            SeriesPress x = begun(30);
            x.add(0, 7, 5);
            due("one point, first", x.block(0, 0, 0), 7);
            due("one point, last", x.block(0, 0, 1), 7);
            due("one point, points", x.block(0, 0, 2), 1);
            due("one point, bytes", x.block(0, 0, 3), 14);
            x.add(0, 9, 5);
            x.add(0, 10, 5);
            due("three, first", x.block(0, 0, 0), 7);
            due("three, last", x.block(0, 0, 1), 10);
            due("three, points", x.block(0, 0, 2), 3);
            due("three, bytes without a check", x.block(0, 0, 3), 17);
            x.late(0, 5, 0);
            x.late(0, 9, 0);
            due("late ones aside, first", x.block(0, 0, 0), 7);
            due("late ones aside, points", x.block(0, 0, 2), 3);
            x.seals(0);
            due("bytes with a check", x.block(0, 0, 3), 18);
            x.add(0, MAX, 5);
            due("the next one, first", x.block(0, 1, 0), MAX);
        });
        says("4: bits behind the HEAD (without those that fill up),", () -> {
            SeriesPress x = begun(30);
            x.add(0, 7, 5);
            due("none", x.block(0, 0, 4), 0);
            x.add(0, 9, 5);
            due("10", x.block(0, 0, 4), 10);
            x.seals(0);
            due("10, and a check", x.block(0, 0, 4), 10);
            tape(x, sealed(10, 5, 5, "10 0000001 0 00 00 00"));
            x.takes(0);
            due("16, of a block that came", x.block(0, 1, 4), 16);
        });
        says("5: 1 if it is sealed, else 0.", () -> {
            SeriesPress x = single(2);
            due("sealed", x.block(0, 0, 5), 1);
            due("open", x.block(0, 1, 5), 0);
            x.seals(0);
            due("sealed then", x.block(0, 1, 5), 1);
            x.damage(0, 1, 0, 1);
            due("broken", x.block(0, 1, 5), 1);
        });
        says(NO_SUCH_AND, () -> {
            SeriesPress x = single(2);
            for (int what = 0; what < 6; what++) {
                for (int b : notBelow(2)) {
                    due("block " + b, x.block(0, b, what), -2);
                }
            }
            for (int what : notBelow(6)) {
                due("what " + what, x.block(0, 0, what), -2);
            }
            for (int s : NO_SERIES) {
                due("series " + s, x.block(s, 0, 3), -2);
            }
            due("no blocks", begun(24).block(0, 0, 3), -2);
        });
        says("-6: it is BROKEN (but for 3, 5).", () -> {
            SeriesPress x = single(2);
            x.damage(0, 0, 3, 8);
            int[] told = {-6, -6, -6, 15, -6, 1};
            for (int what = 0; what < 6; what++) {
                due("what " + what, x.block(0, 0, what), told[what]);
                due("the other one is not", x.block(0, 1, what) >= 0 ? 1 : 0, 1);
            }
            due("-2 ahead of it", x.block(0, 0, 6), -2);
        });
    }

    static void octet() {
        section("Promise 9: octet");
        says("Byte i (from 0; told as 0 .. 255) of a BLOCK (an open one: without CHECK).", () -> {
            SeriesPress x = begun(30);
            x.add(0, 0, -1);
            due("byte 0", x.octet(0, 0, 0), 0);
            due("255", x.octet(0, 0, 4), 255);
            due("the last of an open one", x.octet(0, 0, 13), 1);
            due("it has no check", x.octet(0, 0, 14), NONE);
            x.seals(0);
            due("a sealed one has", x.octet(0, 0, 14), checkOf(bytesOf(x, 0, 0).subList(0, 14)));
            x.damage(0, 0, 0, 200);
            due("of a broken one", x.octet(0, 0, 0), 200);
        });
        says("NONE: not so many, i is below 0;", () -> {
            SeriesPress x = begun(30);
            x.add(0, 0, -1);
            for (int i : new int[] {14, 15, 200, GREATEST_INT, -1, LEAST_INT}) {
                due("open, byte " + i, x.octet(0, 0, i), NONE);
            }
            x.seals(0);
            for (int i : new int[] {15, 16, 200, GREATEST_INT, -1, LEAST_INT}) {
                due("sealed, byte " + i, x.octet(0, 0, i), NONE);
            }
            tape(x, sealed(1, 0, 737, "10 0000001 0" + "00".repeat(735)));
            x.begins(0, 200);
            x.takes(0);
            due("byte 199 of 200", x.octet(0, 0, 199) >= 0 ? 1 : 0, 1);
            due("byte 200 of 200", x.octet(0, 0, 200), NONE);
        });
        says("-2: there is no such SERIES, BLOCK.", () -> {
            SeriesPress x = single(2);
            for (int b : notBelow(2)) {
                due("block " + b, x.octet(0, b, 0), -2);
            }
            for (int s : NO_SERIES) {
                due("series " + s, x.octet(s, 0, 0), -2);
            }
            due("no blocks", begun(24).octet(0, 0, 0), -2);
        });
    }

    static void fault() {
        section("Promise 10: fault");
        says("What is wrong with a BLOCK (0: it is SOUND), what 0: its FAULT,", () -> {
            SeriesPress x = begun(24);
            x.add(0, 5, 5);
            due("open", x.fault(0, 0, 0), 0);
            x.seals(0);
            due("sealed", x.fault(0, 0, 0), 0);
            x.damage(0, 0, 13, 0);
            due("the check", x.fault(0, 0, 0), 1);
            makeCheckRight(x, 0);
            due("no points", x.fault(0, 0, 0), 5);
            x.damage(0, 0, 13, 2);
            makeCheckRight(x, 0);
            due("too many points", x.fault(0, 0, 0), 2);
            x.damage(0, 0, 13, 1);
            x.damage(0, 0, 0, 0x80);
            makeCheckRight(x, 0);
            due("stamp", x.fault(0, 0, 0), 3);
            x.damage(0, 0, 0, 1);
            makeCheckRight(x, 0);
            due("another stamp", x.fault(0, 0, 0), 7);
            x.damage(0, 0, 0, 0);
            makeCheckRight(x, 0);
            due("sound again", x.fault(0, 0, 0), 0);
            due("form", holding(sealed(0, 5, 2, "110 000000001 0")).fault(0, 0, 0), 4);
            due("rest", holding(sealed(0, 5, 2, "10 0000001 0 1")).fault(0, 0, 0), 6);
        });
        says("1: its place (NONE without; of 1: NONE).", () -> {
            SeriesPress x = begun(24);
            x.add(0, 5, 5);
            due("open", x.fault(0, 0, 1), NONE);
            x.seals(0);
            due("sound", x.fault(0, 0, 1), NONE);
            x.damage(0, 0, 14, 255);
            due("of 1", x.fault(0, 0, 1), NONE);
            due("of 5", holding(sealed(0, 5, 0, "")).fault(0, 0, 1), 0);
            due("of 2", holding(sealed(0, 5, 9, "10 0000001 0")).fault(0, 0, 1), 16);
            due("of 6", holding(sealed(0, 5, 2, "10 0000001 0 1")).fault(0, 0, 1), 10);
            SeriesPress y = holding(sealed(0, 5, 2, "10 0000001 0 1"));
            become(y, 0, soundOf(17));
            due("sound again", y.fault(0, 0, 1), NONE);
        });
        says(NO_SUCH, () -> {
            SeriesPress x = single(2);
            for (int what : notBelow(2)) {
                due("what " + what, x.fault(0, 0, what), -2);
            }
            for (int b : notBelow(2)) {
                due("block " + b, x.fault(0, b, 0), -2);
                due("block " + b + ", its place", x.fault(0, b, 1), -2);
            }
            for (int s : NO_SERIES) {
                due("series " + s, x.fault(s, 0, 0), -2);
            }
        });
    }

    static void damage() {
        section("Promise 11: damage");
        says("A byte of a sealed BLOCK is another one (0 .. 255): which it was.", () -> {
            SeriesPress x = single(2);
            for (int i = 0; i < 15; i++) {
                int was = x.octet(0, 0, i);
                due("byte " + i + " to 255", x.damage(0, 0, i, 255), was);
                due("it is", x.octet(0, 0, i), 255);
                due("to 0", x.damage(0, 0, i, 0), 255);
                due("it is 0", x.octet(0, 0, i), 0);
                due("and back", x.damage(0, 0, i, was), 0);
                due("sound again", x.fault(0, 0, 0), 0);
            }
            stays("as it was", x, () -> x.damage(0, 0, 13, 1), 1);
            x.damage(0, 0, 11, 6);
            makeCheckRight(x, 0);
            due("another value", x.at(0, 0), 6);
        });
        says(NO_SUCH_AND, () -> {
            SeriesPress x = single(2);
            for (int i : notBelow(15)) {
                stays("byte " + i, x, () -> x.damage(0, 0, i, 0), -2);
            }
            for (int to : notBelow(256)) {
                stays("to " + to, x, () -> x.damage(0, 0, 0, to), -2);
            }
            for (int b : notBelow(2)) {
                due("block " + b, x.damage(0, b, 0, 0), -2);
            }
            for (int s : NO_SERIES) {
                due("series " + s, x.damage(s, 0, 0, 0), -2);
            }
            due("a byte that an open one does not have", x.damage(0, 1, 14, 0), -2);
            due("no such byte for an open one", x.damage(0, 1, 0, 256), -2);
        });
        says("-5: it is open.", () -> {
            SeriesPress x = single(2);
            stays("its first byte", x, () -> x.damage(0, 1, 0, 9), -5);
            stays("its last byte", x, () -> x.damage(0, 1, 13, 9), -5);
            stays("as it was", x, () -> x.damage(0, 1, 13, 1), -5);
        });
    }

    // ---- 12 to 18

    static void has() {
        section("Promise 12: has");
        says("1 if there is a POINT of a stamp, else 0.", () -> {
            SeriesPress x = spoilt();
            due("no points", begun(24).has(0, 0), 0);
            due("in a broken one", x.has(0, 0), 0);
            due("in the open one", x.has(0, 10), 1);
            due("one ahead", x.has(0, 9), 0);
            due("one behind", x.has(0, 11), 0);
            due("late", x.has(0, 15), 1);
            due("LAST", x.has(0, 20), 1);
            due("above LAST", x.has(0, 21), 0);
            due("2000000000", x.has(0, MAX), 0);
            x.add(0, MAX, 0);
            due("2000000000, there", x.has(0, MAX), 1);
            x.late(0, 0, 1);
            due("late, in a broken one", x.has(0, 0), 1);
        });
        says(NO_SUCH, () -> {
            SeriesPress x = begun(24);
            for (int stamp : NO_STAMPS) {
                due("stamp " + stamp, x.has(0, stamp), -2);
            }
            for (int s : NO_SERIES) {
                due("series " + s, x.has(s, 0), -2);
            }
        });
    }

    static void at() {
        section("Promise 13: at");
        says("Its bits;", () -> {
            SeriesPress x = begun(24);
            x.add(0, 0, -5);
            x.seals(0);
            x.add(0, 10, 6);
            x.add(0, MAX, 7);
            due("in a sealed one", x.at(0, 0), -5);
            due("in the open one", x.at(0, 10), 6);
            due("2000000000", x.at(0, MAX), 7);
            x.late(0, 0, -9);
            due("late", x.at(0, 0), -9);
        });
        says("0 without one, or without such a SERIES.", () -> {
            SeriesPress x = spoilt();
            due("there is one", x.at(0, 10), 5);
            due("between", x.at(0, 11), 0);
            due("in a broken one", x.at(0, 0), 0);
            due("above LAST", x.at(0, 21), 0);
            for (int stamp : NO_STAMPS) {
                due("stamp " + stamp, x.at(0, stamp), 0);
            }
            for (int s : NO_SERIES) {
                due("series " + s, x.at(s, 10), 0);
            }
            due("no points", begun(24).at(0, 0), 0);
        });
    }

    static void nearest() {
        section("Promise 14: nearest");
        says("The stamp of the POINT nearest to a stamp, of two the earlier one.", () -> {
            SeriesPress x = begun(24);
            x.add(0, 10, 0);
            due("one point, ahead of it", x.nearest(0, 0), 10);
            due("one point, behind it", x.nearest(0, MAX), 10);
            x.seals(0);
            x.add(0, 20, 0);
            x.add(0, MAX, 0);
            int[][] rows = {{0, 10}, {9, 10}, {10, 10}, {14, 10}, {15, 10}, {16, 20}, {20, 20}, {21, 20},
                {1000000009, 20}, {1000000010, 20}, {1000000011, MAX}, {MAX, MAX}};
            for (int[] r : rows) {
                due("" + r[0], x.nearest(0, r[0]), r[1]);
            }
            x.late(0, 14, 0);
            due("a late one", x.nearest(0, 12), 10);
            due("a late one is nearer", x.nearest(0, 13), 14);
            x.damage(0, 0, 0, 1);
            due("a broken one aside", x.nearest(0, 0), 14);
        });
        says("NONE: there are no POINTS;", () -> {
            due("no blocks", begun(24).nearest(0, 0), NONE);
            SeriesPress x = begun(24);
            x.add(0, 5, 0);
            x.seals(0);
            x.damage(0, 0, 0, 1);
            due("a broken one", x.nearest(0, 5), NONE);
        });
        says(NO_SUCH, () -> {
            SeriesPress x = single(2);
            for (int stamp : NO_STAMPS) {
                due("stamp " + stamp, x.nearest(0, stamp), -2);
            }
            for (int s : NO_SERIES) {
                due("series " + s, x.nearest(s, 0), -2);
            }
        });
    }

    static void point() {
        section("Promise 15: point");
        says("Of POINT i (from 0), what 0: its stamp, 1: its bits.", () -> {
            SeriesPress x = spoilt();
            x.late(0, 5, -4);
            x.late(0, 20, 9);
            long[][] rows = {{5, -4}, {10, 5}, {15, 6}, {20, 9}};
            for (int i = 0; i < 4; i++) {
                due("stamp " + i, x.point(0, i, 0), rows[i][0]);
                due("bits " + i, x.point(0, i, 1), rows[i][1]);
            }
        });
        says("NONE: not so many, there are none such.", () -> {
            SeriesPress x = spoilt();
            for (int i : notBelow(3)) {
                due("stamp of " + i, x.point(0, i, 0), NONE);
                due("bits of " + i, x.point(0, i, 1), NONE);
            }
            for (int what : notBelow(2)) {
                due("what " + what, x.point(0, 0, what), NONE);
            }
            for (int s : NO_SERIES) {
                due("series " + s, x.point(s, 0, 0), NONE);
            }
            due("no points", begun(24).point(0, 0, 0), NONE);
        });
    }

    static final long[] MIXED = {d(1), NAN, MINUS_ZERO, 0, INF, MINUS_INF, NO_NUMBER, d(2)};

    /** Stamps 0, 10 .. 70 of the values above, two in each block, all sealed. */
    static SeriesPress mixed() {
        SeriesPress x = begun(60);
        for (int i = 0; i < 8; i++) {
            x.add(0, 10 * i, MIXED[i]);
            if (i % 2 == 1) {
                x.seals(0);
            }
        }
        return x;
    }

    static void span() {
        section("Promise 16: span");
        says("Of POINTS with stamps from .. to, what 0: how many,", () -> {
            SeriesPress x = mixed();
            due("all", x.span(0, 0, 70, 0), 8);
            due("on its edges", x.span(0, 10, 30, 0), 3);
            due("within them", x.span(0, 11, 29, 0), 1);
            due("one stamp", x.span(0, 20, 20, 0), 1);
            due("none", x.span(0, 11, 19, 0), 0);
            x.late(0, 15, 0);
            x.late(0, 20, 0);
            due("late ones", x.span(0, 11, 29, 0), 2);
            x.damage(0, 0, 0, 1);
            due("a broken one aside", x.span(0, 0, 70, 0), 7);
        });
        says("1: how many BLOCKS are OPENED for it,", () -> {
            SeriesPress x = mixed();
            due("all", x.span(0, 0, 70, 1), 4);
            due("on their edges", x.span(0, 10, 20, 1), 2);
            due("between them", x.span(0, 11, 19, 1), 0);
            due("within one", x.span(0, 1, 9, 1), 1);
            due("ahead of all", x.span(0, -9, -1, 1), 0);
            due("behind all", x.span(0, 71, 99, 1), 0);
        });
        says("2: the first stamp, 3: the last one (NONE),", () -> {
            SeriesPress x = mixed();
            due("first", x.span(0, 11, 59, 2), 20);
            due("last", x.span(0, 11, 59, 3), 50);
            due("first of one alone", x.span(0, 11, 29, 2), 20);
            due("last of one alone", x.span(0, 11, 29, 3), 20);
            due("first, on the edge", x.span(0, 10, 60, 2), 10);
            due("last, on the edge", x.span(0, 10, 60, 3), 60);
            due("no first", x.span(0, 1, 9, 2), NONE);
            due("no last", x.span(0, 1, 9, 3), NONE);
            x.late(0, 15, 0);
            due("first, late", x.span(0, 11, 59, 2), 15);
            due("last, late", x.span(0, 11, 19, 3), 15);
        });
        says("4: how many are no numbers, 5: how many are -0.0, 6: how many are infinite.", () -> {
            SeriesPress x = mixed();
            due("no numbers", x.span(0, 0, 70, 4), 2);
            due("-0.0, not 0.0", x.span(0, 0, 70, 5), 1);
            due("infinite, of both signs", x.span(0, 0, 70, 6), 2);
            for (int i = 0; i < 8; i++) {
                due("no number " + i, x.span(0, 10 * i, 10 * i, 4), i == 1 || i == 6 ? 1 : 0);
                due("-0.0 " + i, x.span(0, 10 * i, 10 * i, 5), i == 2 ? 1 : 0);
                due("infinite " + i, x.span(0, 10 * i, 10 * i, 6), i == 4 || i == 5 ? 1 : 0);
            }
            due("none there", x.span(0, 1, 9, 4) + x.span(0, 1, 9, 5) + x.span(0, 1, 9, 6), 0);
        });
        says("-2: there are none such (from above to, too).", () -> {
            SeriesPress x = mixed();
            for (int what = 0; what < 7; what++) {
                due("from above to, what " + what, x.span(0, 11, 10, what), -2);
                due("from far above to, what " + what, x.span(0, GREATEST_INT, LEAST_INT, what), -2);
            }
            for (int what : notBelow(7)) {
                due("what " + what, x.span(0, 0, 9, what), -2);
            }
            for (int s : NO_SERIES) {
                due("series " + s, x.span(s, 0, 9, 0), -2);
            }
        });
    }

    static void value() {
        section("Promise 17: value");
        says("Of those that are numbers (IV), what 0: the bits of the first, 1: of the last, 2: of the least, 3: of the"
                + " greatest (the first of like ones),", () -> {
            SeriesPress x = mixed();
            due("first", x.value(0, 0, 70, 0), d(1));
            due("first, behind one that is none", x.value(0, 10, 70, 0), MINUS_ZERO);
            due("last", x.value(0, 0, 70, 1), d(2));
            due("last, ahead of one that is none", x.value(0, 0, 60, 1), MINUS_INF);
            due("least", x.value(0, 0, 70, 2), MINUS_INF);
            due("greatest", x.value(0, 0, 70, 3), INF);
            due("least, the first of like ones", x.value(0, 0, 30, 2), MINUS_ZERO);
            due("least, the other alone", x.value(0, 30, 30, 2), 0);
            due("greatest, the first of like ones", x.value(0, 20, 30, 3), MINUS_ZERO);
            SeriesPress y = with(0.0, -0.0, -1, -2, -1.5);
            due("least, the first of like zeros", y.value(0, 10, 20, 2), 0);
            due("greatest, the first of like zeros", y.value(0, 10, 50, 3), 0);
            due("least below 0", y.value(0, 10, 50, 2), d(-2));
            due("least, the next one being less", y.value(0, 10, 30, 2), d(-1));
            due("least of one alone", y.value(0, 30, 30, 2), d(-1));
            due("greatest, the second", with(1, 3, 2).value(0, 10, 30, 3), d(3));
            due("least, the second", with(3, 1, 2).value(0, 10, 30, 2), d(1));
            due("greatest, the last", with(1, 2, 3).value(0, 10, 30, 3), d(3));
            due("least, the last", with(3, 2, 1).value(0, 10, 30, 2), d(1));
            due("greatest below 0", y.value(0, 30, 50, 3), d(-1));
            y.late(0, 45, d(-9));
            due("a late one", y.value(0, 10, 50, 2), d(-9));
            due("smallest ones", with(Double.MIN_VALUE, -Double.MIN_VALUE).value(0, 10, 20, 2), d(-Double.MIN_VALUE));
        });
        says("4: of the sum, one to the next from 0.0 on.", () -> {
            due("1 + 2 + 3", with(1, 2, 3).value(0, 10, 30, 4), d(6));
            due("one to the next", with(1e16, 1, 1, -1e16).value(0, 10, 40, 4), d(0));
            due("one to the next, else", with(1, 1, 1e16, -1e16).value(0, 10, 40, 4), d(2));
            due("0.1 + 0.2", with(0.1, 0.2).value(0, 10, 20, 4), d(0.1 + 0.2));
            due("from 0.0 on: -0.0", with(-0.0).value(0, 10, 10, 4), 0);
            due("1 - 1", with(1, -1).value(0, 10, 20, 4), 0);
            due("no numbers aside", with(1, Double.NaN, 2).value(0, 10, 30, 4), d(3));
            due("too great", with(Double.MAX_VALUE, Double.MAX_VALUE).value(0, 10, 20, 4), INF);
            due("infinite", with(1, Double.NEGATIVE_INFINITY).value(0, 10, 20, 4), MINUS_INF);
            due("the greatest and -infinite", with(Double.MAX_VALUE, Double.NEGATIVE_INFINITY).value(0, 10, 20, 4),
                    MINUS_INF);
            due("-infinite and the greatest", with(Double.NEGATIVE_INFINITY, Double.MAX_VALUE).value(0, 10, 20, 4),
                    MINUS_INF);
            due("least ones", with(Double.MIN_VALUE, Double.MIN_VALUE).value(0, 10, 20, 4), 2);
        });
        says("NO_NUMBER: there are none such, no numbers, the sum is none.", () -> {
            SeriesPress x = mixed();
            for (int what = 0; what < 5; what++) {
                due("from above to, what " + what, x.value(0, 1, 0, what), NO_NUMBER);
                due("no points, what " + what, x.value(0, 1, 9, what), NO_NUMBER);
                due("no numbers, what " + what, x.value(0, 60, 60, what), NO_NUMBER);
                for (int s : NO_SERIES) {
                    due("series " + s, x.value(s, 0, 70, what), NO_NUMBER);
                }
            }
            for (int what : notBelow(5)) {
                due("what " + what, with(1, 2).value(0, 0, 70, what), NO_NUMBER);
            }
            due("the sum is none", x.value(0, 40, 50, 4), NO_NUMBER);
            due("the sum is none from there on", x.value(0, 0, 70, 4), NO_NUMBER);
            due("the sum becomes infinite, then none", with(Double.MAX_VALUE, Double.MAX_VALUE,
                    Double.NEGATIVE_INFINITY, 1).value(0, 10, 40, 4), NO_NUMBER);
        });
    }

    static void above() {
        section("Promise 18: above");
        says("How many of those are above a number, told by its bits.", () -> {
            SeriesPress x = begun(200);
            long[] values = {d(3), MINUS_ZERO, NAN, d(3), 0, d(-5), INF, MINUS_INF, d(1)};
            for (int i = 0; i < 9; i++) {
                x.add(0, 10 * i, values[i]);
            }
            due("0.0", x.above(0, 0, 80, 0), 4);
            due("-0.0", x.above(0, 0, 80, MINUS_ZERO), 4);
            due("the least below 0", x.above(0, 0, 80, MINUS_ZERO | 1), 6);
            due("the least above 0", x.above(0, 0, 80, 1), 4);
            due("3", x.above(0, 0, 80, d(3)), 1);
            due("just below 3", x.above(0, 0, 80, d(3) - 1), 3);
            due("-5", x.above(0, 0, 80, d(-5)), 6);
            due("-infinite", x.above(0, 0, 80, MINUS_INF), 7);
            due("infinite", x.above(0, 0, 80, INF), 0);
            due("on the edges", x.above(0, 0, 30, d(2)), 2);
            due("no points", x.above(0, 1, 9, MINUS_INF), 0);
        });
        says(NO_SUCH_AND, () -> {
            SeriesPress x = mixed();
            due("from above to", x.above(0, 1, 0, 0), -2);
            for (int s : NO_SERIES) {
                due("series " + s, x.above(s, 0, 70, 0), -2);
                due("series " + s + ", no number", x.above(s, 0, 70, NAN), -2);
            }
        });
        says("NONE: it is no number.", () -> {
            SeriesPress x = mixed();
            due("no number", x.above(0, 0, 70, NAN), NONE);
            due("NO_NUMBER", x.above(0, 0, 70, NO_NUMBER), NONE);
            due("infinite is a number", x.above(0, 0, 70, INF), 0);
            due("no points", x.above(0, 1, 9, NAN), NONE);
        });
    }

    // ---- 19 to 25

    static void ways() {
        section("Promise 19: ways");
        says("How many stamps of BLOCKS that are SOUND (HEADS aside) are of CLASS what 0 .. 4, how many values of WAY 5:"
                + " the same, 6: by the WINDOW, 7: anew.", () -> {
            SeriesPress x = begun(200);
            int[] stamps = {0, 1, 2, 100, 1000, 100000, 100001};
            long[] values = {0, 0, 0xf000, 0xe000, 0xe000, 0xffff, 0xffff};
            for (int i = 0; i < 7; i++) {
                x.add(0, stamps[i], values[i] << 30);
            }
            // Seconds: 1, 0, 97, 802, 98100, -98999; X: 0, f000, 1000, 0, 1fff, 0.
            int[] told = {1, 1, 1, 1, 2, 3, 1, 2};
            for (int what = 0; what < 8; what++) {
                due("open, what " + what, x.ways(0, what), told[what]);
            }
            x.late(0, 50, 0);
            x.seals(0);
            for (int what = 0; what < 8; what++) {
                due("sealed, a late one aside, what " + what, x.ways(0, what), told[what]);
            }
            x.add(0, 200000, 0);
            due("heads aside", x.ways(0, 4), 2);
            x.add(0, 300000, 0);
            due("of two blocks", x.ways(0, 4), 3);
            x.damage(0, 0, 0, 1);
            due("a broken one aside", x.ways(0, 4), 1);
            due("a broken one aside, values", x.ways(0, 5), 1);
            x.drops(0, 1);
            due("one that is gone aside", x.ways(0, 4), 0);
            for (int what = 0; what < 8; what++) {
                due("no blocks, what " + what, begun(24).ways(0, what), 0);
                due("sixteen heads alone, what " + what, single(16).ways(0, what), 0);
            }
        });
        says(NO_SUCH, () -> {
            SeriesPress x = single(2);
            for (int what : notBelow(8)) {
                due("what " + what, x.ways(0, what), -2);
            }
            for (int s : NO_SERIES) {
                due("series " + s, x.ways(s, 0), -2);
            }
        });
    }

    static void window() {
        section("Promise 20: window");
        says("Of the WINDOW of the open BLOCK, what 0: how many bits ahead of it, 1: how many behind.", () -> {
            long[][] rows = {{0xffL << 40, 16, 40}, {-1, 0, 0}, {1, 31, 0}, {MINUS_ZERO, 0, 63}, {1L << 32, 31, 32},
                {1L << 31, 31, 31}, {1L << 33, 30, 33}};
            for (long[] r : rows) {
                SeriesPress x = begun(200);
                x.add(0, 0, 0);
                x.add(0, 1, r[0]);
                due("ahead", x.window(0, 0), r[1]);
                due("behind", x.window(0, 1), r[2]);
            }
        });
        says("NONE: there is none;", () -> {
            SeriesPress x = begun(200);
            dueNoWindow("no blocks", x);
            x.add(0, 0, 9);
            dueNoWindow("one point", x);
            x.add(0, 1, 9);
            dueNoWindow("the same", x);
            x.add(0, 2, 8);
            due("there is one", x.window(0, 0), 31);
            x.seals(0);
            dueNoWindow("none is open", x);
            x.add(0, 3, 8);
            dueNoWindow("a new one", x);
            x.add(0, 4, 0);
            x.drops(0, 1);
            dueNoWindow("it is gone", x);
        });
        says(NO_SUCH, () -> {
            SeriesPress x = single(1);
            for (int what : notBelow(2)) {
                due("what " + what, x.window(0, what), -2);
            }
            for (int s : NO_SERIES) {
                due("series " + s, x.window(s, 0), -2);
            }
        });
    }

    static void dueNoWindow(String what, SeriesPress x) {
        due(what + ", ahead", x.window(0, 0), NONE);
        due(what + ", behind", x.window(0, 1), NONE);
    }

    static void gap() {
        section("Promise 21: gap");
        says("The longest way from one POINT to the next, what 0: its length, 1: the stamp on which it begins, the first"
                + " of several.", () -> {
            SeriesPress x = begun(24);
            x.add(0, 3, 5);
            x.seals(0);
            x.add(0, 13, 5);
            x.add(0, 18, 5);
            x.add(0, 28, 6);
            due("length", x.gap(0, 0), 10);
            due("the first of several, over two blocks", x.gap(0, 1), 3);
            x.late(0, 9, 5);
            due("a late one between", x.gap(0, 1), 18);
            x.late(0, 0, 5);
            x.add(0, 39, 6);
            due("a longer one at the end", x.gap(0, 1), 28);
            SeriesPress y = begun(24);
            y.add(0, 0, 0);
            y.add(0, MAX, 0);
            due("the longest of all", y.gap(0, 0), MAX);
            due("begins on 0", y.gap(0, 1), 0);
            SeriesPress z = spoilt();
            due("a broken one aside", z.gap(0, 1), 10);
            due("a broken one aside, length", z.gap(0, 0), 5);
        });
        says("NONE: there are not two;", () -> {
            SeriesPress x = begun(24);
            due("none, length", x.gap(0, 0), NONE);
            due("none, stamp", x.gap(0, 1), NONE);
            x.add(0, 0, 5);
            due("one, length", x.gap(0, 0), NONE);
            due("one, stamp", x.gap(0, 1), NONE);
            x.add(0, 1, 5);
            due("two, length", x.gap(0, 0), 1);
            due("two, stamp", x.gap(0, 1), 0);
        });
        says(NO_SUCH, () -> {
            SeriesPress x = single(3);
            for (int what : notBelow(2)) {
                due("what " + what, x.gap(0, what), -2);
            }
            for (int s : NO_SERIES) {
                due("series " + s, x.gap(s, 0), -2);
            }
        });
    }

    static void row() {
        section("Promise 22: row");
        says("The longest row of POINTS, what 0: of the same bits, 1: of numbers each above the one ahead.", () -> {
            due("the same", with(1, 2, 2, 2, 1, 1).row(0, 0), 3);
            due("none is the same", with(1, 2, 3).row(0, 0), 1);
            due("no numbers of the same bits", with(Double.NaN, Double.NaN).row(0, 0), 2);
            due("zeros are of other bits", with(0.0, -0.0).row(0, 0), 1);
            due("the same at the end", with(1, 2, 2).row(0, 0), 2);
            due("each above", with(1, 2, 2, 3, 4, 4).row(0, 1), 3);
            due("one that is none ends it", with(1, 2, Double.NaN, 3, 4, 5).row(0, 1), 3);
            SeriesPress below = with(1, 2);
            below.add(0, 30, NAN);
            below.add(0, 40, d(3));
            due("one below 0 that is none ends it too", below.row(0, 1), 2);
            due("none is above", with(3, 2, 1).row(0, 1), 1);
            due("zeros are alike", with(-0.0, 0.0, 1).row(0, 1), 2);
            due("from -infinite to infinite", with(Double.NEGATIVE_INFINITY, -1, -Double.MIN_VALUE, 0,
                    Double.POSITIVE_INFINITY).row(0, 1), 5);
            SeriesPress x = begun(24);
            x.add(0, 0, d(1));
            x.seals(0);
            x.add(0, 10, d(2));
            due("over two blocks", x.row(0, 1), 2);
            x.late(0, 5, d(1));
            due("a late one, the same", x.row(0, 0), 2);
            due("a late one, each above", x.row(0, 1), 2);
            x.damage(0, 0, 0, 9);
            due("a broken one aside", x.row(0, 0), 1);
        });
        says("0 without POINTS (what 1: without numbers);", () -> {
            due("no points", begun(24).row(0, 0), 0);
            due("no points, each above", begun(24).row(0, 1), 0);
            due("no numbers, the same", with(Double.NaN).row(0, 0), 1);
            due("no numbers, each above", with(Double.NaN, Double.NaN).row(0, 1), 0);
            due("one number, each above", with(Double.NaN, 5).row(0, 1), 1);
        });
        says(NO_SUCH, () -> {
            SeriesPress x = single(2);
            for (int what : notBelow(2)) {
                due("what " + what, x.row(0, what), -2);
            }
            for (int s : NO_SERIES) {
                due("series " + s, x.row(s, 0), -2);
            }
        });
    }

    /** Series 0 and 1 with stamps of both, of one alone, and of other bits. */
    static SeriesPress two() {
        SeriesPress x = with(1, 2, 3, 4);
        x.begins(1, 24);
        x.add(1, 10, d(1));
        x.add(1, 20, d(9));
        x.add(1, 25, d(3));
        x.add(1, 40, d(4));
        x.add(1, 50, d(4));
        return x;
    }

    static void both() {
        section("Promise 23: both");
        says("Of two SERIES how many stamps are in both, what 0: in all, 1: with the same bits.", () -> {
            SeriesPress x = two();
            due("in all", x.both(0, 1, 0), 3);
            due("with the same bits", x.both(0, 1, 1), 2);
            due("the other way, in all", x.both(1, 0, 0), 3);
            due("the other way, with the same bits", x.both(1, 0, 1), 2);
            due("with itself", x.both(1, 1, 1), 5);
            x.late(1, 30, d(3));
            x.late(1, 20, d(2));
            due("late ones", x.both(0, 1, 1), 4);
            x.begins(2, 24);
            due("without points", x.both(0, 2, 0), 0);
            due("without points, the other way", x.both(2, 0, 1), 0);
            due("both without points", x.both(2, 2, 0), 0);
            x.seals(0);
            x.damage(0, 0, 0, 1);
            due("a broken one aside", x.both(0, 1, 0), 0);
            due("no numbers of the same bits", with(Double.NaN).both(0, 0, 1), 1);
            SeriesPress y = with(0.0);
            y.begins(1, 24);
            y.add(1, 10, MINUS_ZERO);
            due("zeros are of other bits", y.both(0, 1, 1), 0);
        });
        says(NO_SUCH, () -> {
            SeriesPress x = single(2);
            for (int what : notBelow(2)) {
                due("what " + what, x.both(0, 0, what), -2);
            }
            for (int s : NO_SERIES) {
                due("series " + s, x.both(s, 0, 0), -2);
                due("the other one " + s, x.both(0, s, 0), -2);
            }
        });
    }

    static void differ() {
        section("Promise 24: differ");
        says("The first stamp that is not in both with the same bits.", () -> {
            SeriesPress x = two();
            due("other bits", x.differ(0, 1), 20);
            x.late(1, 20, d(2));
            due("in the other one alone", x.differ(0, 1), 25);
            due("in the first one alone", x.differ(1, 0), 25);
            x.copy(0, 2);
            x.add(2, MAX, 0);
            due("longer by one", x.differ(0, 2), MAX);
            due("shorter by one", x.differ(2, 0), MAX);
            x.late(2, 0, 0);
            due("it begins ahead", x.differ(0, 2), 0);
            x.begins(3, 24);
            due("without points", x.differ(0, 3), 10);
            due("without points, the other way", x.differ(3, 0), 10);
            x.cuts(0, 20, MAX);
            due("one point, and without points", x.differ(0, 3), 10);
            due("one point, and without points, the other way", x.differ(3, 0), 10);
            SeriesPress y = with(0.0);
            y.begins(1, 24);
            y.add(1, 10, MINUS_ZERO);
            due("zeros are of other bits", y.differ(0, 1), 10);
        });
        says("NONE: there is none;", () -> {
            SeriesPress x = two();
            due("with itself", x.differ(0, 0), NONE);
            x.copy(0, 2);
            x.repack(2, 24);
            due("packed otherwise", x.differ(0, 2), NONE);
            x.begins(2, 24);
            x.begins(3, 24);
            due("both without points", x.differ(2, 3), NONE);
            due("no numbers of the same bits", with(Double.NaN).differ(0, 0), NONE);
        });
        says(NO_SUCH, () -> {
            SeriesPress x = single(2);
            for (int s : NO_SERIES) {
                due("series " + s, x.differ(s, 0), -2);
                due("the other one " + s, x.differ(0, s), -2);
            }
        });
    }

    /** Sixteen blocks of room 200, and twenty late points that would need one more by any room. */
    static SeriesPress fullest() {
        SeriesPress x = begun(200);
        long mix = 1L << 63 | 2;
        int n = 0;
        for (int stamp = 0, far = 10000; x.add(0, stamp, n % 2 == 0 ? 0 : mix) >= 0; stamp += far, far += 10000) {
            n++;
        }
        for (int i = 0; i < 20; i++) {
            x.late(0, 5000 + 20000 * i, i % 2 == 0 ? 0 : mix);
        }
        return x;
    }

    static void best() {
        section("Promise 25: best");
        says("The ROOM (24 .. 200) by which all POINTS, PACKED anew, take fewest bytes, of like ones the least.", () -> {
            SeriesPress x = begun(200);
            due("without points", x.best(0), 24);
            x.add(0, 0, 0);
            due("one point", x.best(0), 24);
            for (int i = 1; i < 40; i++) {
                x.add(0, i, 0);
            }
            // 10 + 38 * 2 bits are 86: 11 bytes, 25 with the head, 26 with a check.
            stays("the least that holds all in one", x, () -> x.best(0), 26);
            SeriesPress late = with(1, 2, 3, 4, 5, 6);
            late.late(0, 25, 1L << 63 | 1);
            late.late(0, 30, d(-7));
            stays("late ones among them", late, () -> late.best(0), leastBytes(late));
            for (int seed = 1; seed <= 5; seed++) {
                SeriesPress y = begun(100);
                for (int i = 0; i < 30; i++) {
                    y.add(0, i * i * seed, d(i * 31 % (7 * seed)));
                }
                due("as by trying all, " + seed, y.best(0), leastBytes(y));
            }
        });
        says("(24 .. 200)", () -> {
            SeriesPress x = begun(24);
            tape(x, sealed(0, 5, 737, "10 0000001 0" + "00".repeat(735)));
            x.begins(0, 200);
            x.takes(0);
            due("all of 200", x.best(0), 200);
        });
        says("NONE: by none (16 BLOCKS);", () -> {
            SeriesPress x = fullest();
            due("by none", x.best(0), NONE);
            due("late ones stay", x.count(0, 3), 20);
            x.drops(0, 0);
            x.drops(0, 0);
            due("by one", x.best(0) > 24 ? 1 : 0, 1);
        });
        says("-2: there is no such SERIES;", () -> {
            SeriesPress x = begun(24);
            for (int s : NO_SERIES) {
                due("series " + s, x.best(s), -2);
            }
        });
        says("-6: a BLOCK is BROKEN.", () -> {
            SeriesPress x = spoilt();
            stays("broken", x, () -> x.best(0), -6);
            x.drops(0, 0);
            due("it is gone", x.best(0), leastBytes(x));
        });
    }

    /** The best room, found by packing a copy by each of them. */
    static int leastBytes(SeriesPress x) {
        int chosen = NONE;
        int fewest = GREATEST_INT;
        x.copy(0, 1);
        for (int room = 24; room <= 200; room++) {
            int bytes = x.repack(1, room) >= 0 ? x.count(1, 4) : GREATEST_INT;
            if (bytes < fewest) {
                fewest = bytes;
                chosen = room;
            }
        }
        return chosen;
    }

    // ---- 26 to 31

    static void repack() {
        section("Promise 26: repack");
        says("All POINTS are PACKED anew by another ROOM: BLOCKS.", () -> {
            SeriesPress x = begun(200);
            due("without points", x.repack(0, 24), 0);
            due("its room", x.count(0, 0), 24);
            x.begins(0, 200);
            SeriesPress y = begun(24);
            for (int i = 0; i < 12; i++) {
                x.add(0, 3 * i, d(i));
                y.add(0, 3 * i, d(i));
            }
            due("room 24", x.repack(0, 24), y.count(0, 2));
            dueText("as if added by that room", look(x), look(y));
            due("room 200", x.repack(0, 200), 1);
            x.late(0, 1, 0);
            due("the same room", x.repack(0, 200), 1);
            due("late ones among them", x.where(0, 1), 0);
            due("none is late", x.count(0, 3), 0);
        });
        says(NO_SUCH_AND, () -> {
            SeriesPress x = spoilt();
            for (int room : NO_ROOMS) {
                stays("room " + room, x, () -> x.repack(0, room), -2);
            }
            for (int s : NO_SERIES) {
                due("series " + s, x.repack(s, 24), -2);
            }
        });
        says("-6, -4 as merge().", () -> {
            SeriesPress x = spoilt();
            stays("broken", x, () -> x.repack(0, 200), -6);
            SeriesPress y = begun(200);
            for (int i = 0; i < 17; i++) {
                y.add(0, 1000000 * i, i % 2 == 0 ? 1 : -1);
            }
            stays("a 17th", y, () -> y.repack(0, 24), -4);
            y.cuts(0, 0, 0);
            due("a 16th", y.repack(0, 24), 16);
        });
    }

    static void thin() {
        section("Promise 27: thin");
        says("Of POINTS whose stamps by step (1 .. 1000000; cut) are alike the first stays: how many go; the rest is PACKED"
                + " anew.", () -> {
            SeriesPress x = begun(200);
            due("without points", x.thin(0, 1000000), 0);
            for (int stamp : new int[] {3, 9, 10, 11, 19, 25, 29, 30}) {
                x.add(0, stamp, stamp);
            }
            x.late(0, 8, 8);
            x.late(0, 3, 4);
            x.seals(0);
            due("step 1", x.thin(0, 1), 0);
            due("packed anew: none is late", x.count(0, 3), 0);
            due("packed anew: open", x.block(0, 0, 5), 0);
            due("step 10", x.thin(0, 10), 5);
            dueText("the first of each", stampsOf(x), "[3, 10, 25, 30]");
            due("a late one in its place", x.at(0, 3), 4);
            due("LAST", x.count(0, 7), 30);
            due("step 1000000", x.thin(0, 1000000), 3);
            dueText("one is left", stampsOf(x), "[3]");
            due("LAST is that of the last point", x.count(0, 7), 3);
            SeriesPress y = begun(200);
            for (int stamp : new int[] {0, 999999, 1000000, 1999999, 2000000, MAX}) {
                y.add(0, stamp, 5);
            }
            due("step 1000000, on the edges", y.thin(0, 1000000), 2);
            dueText("on the edges", stampsOf(y), "[0, 1000000, 2000000, 2000000000]");
            due("step 999999", y.thin(0, 999999), 0);
        });
        says(NO_SUCH_AND, () -> {
            SeriesPress x = spoilt();
            for (int step : new int[] {0, 1000001, -1, LEAST_INT, GREATEST_INT}) {
                stays("step " + step, x, () -> x.thin(0, step), -2);
            }
            for (int s : NO_SERIES) {
                due("series " + s, x.thin(s, 1), -2);
            }
        });
        says("-6, -4 as merge().", () -> {
            SeriesPress x = spoilt();
            stays("broken", x, () -> x.thin(0, 1), -6);
            SeriesPress y = single(16);
            y.late(0, 500000, MINUS_ZERO);
            stays("a 17th", y, () -> y.thin(0, 500000), -4);
            due("a 16th", y.thin(0, 1000000), 1);
        });
    }

    static String stampsOf(SeriesPress x) {
        List<Long> stamps = new ArrayList<>();
        for (int i = 0; i < x.count(0, 6); i++) {
            stamps.add(x.point(0, i, 0));
        }
        return stamps.toString();
    }

    static void cuts() {
        section("Promise 28: cuts");
        says("POINTS with stamps from .. to go: how many; the rest is PACKED anew.", () -> {
            SeriesPress x = begun(24);
            due("without points", x.cuts(0, 0, 1), 0);
            for (int i = 0; i < 6; i++) {
                x.add(0, 10 * i, d(i));
                x.seals(0);
            }
            x.late(0, 25, 1);
            x.late(0, 41, 1);
            due("none", x.cuts(0, 1, 9), 0);
            due("packed anew all the same", x.count(0, 3), 0);
            due("the last is open", x.block(0, x.count(0, 2) - 1, 5), 0);
            due("on the edges", x.cuts(0, 20, 30), 3);
            dueText("the rest", stampsOf(x), "[0, 10, 40, 41, 50]");
            due("within the edges", x.cuts(0, 11, 49), 2);
            dueText("the rest then", stampsOf(x), "[0, 10, 50]");
            due("from above all of them", x.cuts(0, 11, GREATEST_INT), 1);
            due("LAST is that of the last point", x.count(0, 7), 10);
            due("all", x.cuts(0, LEAST_INT, GREATEST_INT), 2);
            due("no LAST", x.count(0, 7), NONE);
            due("no blocks", x.count(0, 2), 0);
        });
        says("-2: there are none such (from above to, too);", () -> {
            SeriesPress x = spoilt();
            stays("from above to", x, () -> x.cuts(0, 11, 10), -2);
            stays("from far above to", x, () -> x.cuts(0, GREATEST_INT, LEAST_INT), -2);
            for (int s : NO_SERIES) {
                due("series " + s, x.cuts(s, 0, 1), -2);
            }
        });
        says("-6, -4 as merge().", () -> {
            SeriesPress x = spoilt();
            stays("broken, though it is not in the span", x, () -> x.cuts(0, 10, 20), -6);
            SeriesPress y = single(16);
            y.late(0, 500000, MINUS_ZERO);
            y.late(0, 1500000, 0);
            stays("a 17th", y, () -> y.cuts(0, 500000, 500000), -4);
            due("a 16th", y.cuts(0, 500000, 1500000), 3);
        });
    }

    static void join() {
        section("Promise 29: join");
        says("POINTS of two SERIES, of like stamps those of the first, come to a SERIES (it may be one of both), PACKED anew"
                + " by the first one's ROOM: BLOCKS.", () -> {
            SeriesPress x = two();
            x.late(1, 45, d(7));
            String first = look(x, 0);
            String second = look(x, 1);
            SeriesPress y = begun(200);
            int[] stamps = {10, 20, 25, 30, 40, 45, 50};
            double[] values = {1, 2, 3, 3, 4, 7, 4};
            for (int i = 0; i < 7; i++) {
                y.add(0, stamps[i], d(values[i]));
            }
            due("blocks", x.join(0, 1, 3), 1);
            dueText("as if they were added", look(x, 3), look(y, 0));
            dueText("the first stays", look(x, 0), first);
            dueText("the second stays", look(x, 1), second);
            due("the other way", x.join(1, 0, 3), x.count(3, 2));
            due("its room", x.count(3, 0), 24);
            due("of like stamps the first", x.at(3, 20), d(9));
            x.begins(2, 100);
            due("both without points", x.join(2, 2, 3), 0);
            due("room of one without points", x.count(3, 0), 100);
            due("with one without points", x.join(2, 0, 3), 1);
            due("all of the other", x.both(0, 3, 1), 4);
        });
        says("(it may be one of both)", () -> {
            SeriesPress x = two();
            due("the second", x.join(0, 1, 1), 1);
            dueText("has all", "" + x.count(1, 6) + " " + x.count(1, 0), "6 200");
            due("the first", x.join(0, 1, 0), 1);
            due("has all", x.differ(0, 1), NONE);
            due("with itself to itself", x.join(0, 0, 0), 1);
            due("has all still", x.differ(0, 1), NONE);
            SeriesPress y = spoilt();
            y.begins(1, 24);
            due("a broken one is written over", y.join(1, 1, 0), 0);
            due("it is sound", y.count(0, 5), 0);
        });
        says(NO_SUCH_AND, () -> {
            SeriesPress x = spoilt();
            for (int s : NO_SERIES) {
                stays("series " + s, x, () -> x.join(s, 0, 2), -2);
                due("the other one " + s, x.join(0, s, 2), -2);
            }
            for (int s : new int[] {-1, 4, LEAST_INT, GREATEST_INT}) {
                due("to " + s, x.join(0, 0, s), -2);
            }
        });
        says("-6, -4 as merge() (for both).", () -> {
            SeriesPress x = spoilt();
            x.begins(1, 24);
            stays("the first is broken", x, () -> x.join(0, 1, 2), -6);
            stays("the second is broken", x, () -> x.join(1, 0, 2), -6);
            stays("broken, to itself", x, () -> x.join(1, 0, 0), -6);
            SeriesPress y = single(16);
            y.begins(1, 200);
            y.add(1, 500000, MINUS_ZERO);
            stays("a 17th", y, () -> y.join(0, 1, 2), -4);
        });
        says("-6, -4 as merge() (for both).", () -> {
            SeriesPress y = single(16);
            y.begins(1, 200);
            y.add(1, 500000, MINUS_ZERO);
            stays("a 17th, to one of both", y, () -> y.join(0, 1, 1), -4);
            due("by more room", y.join(1, 0, 1) > 0 ? 1 : 0, 1);
            due("all are there", y.count(1, 6), 17);
        });
    }

    static void rounds() {
        section("Promise 30: rounds");
        says("The lowest bits (1 .. 52) of all values that are numbers and not infinite become 0, PACKED anew: how many"
                + " POINTS have others then.", () -> {
            SeriesPress x = begun(200);
            due("without points", x.rounds(0, 1), 0);
            long[] values = {d(1.5), NAN, INF, 7, d(2), -1L, MINUS_INF, 0x8000000000000003L, 0x7fefffffffffffffL};
            for (int i = 0; i < values.length; i++) {
                x.add(0, i, values[i]);
            }
            x.late(0, 4, d(2) | 1);
            x.seals(0);
            due("the lowest", x.rounds(0, 1), 4);
            long[] then = {d(1.5), NAN, INF, 6, d(2), -1L, MINUS_INF, 0x8000000000000002L, 0x7feffffffffffffeL};
            dueValues("the lowest", x, then);
            due("none is late", x.count(0, 3), 0);
            due("the last is open", x.block(0, x.count(0, 2) - 1, 5), 0);
            due("again", x.rounds(0, 1), 0);
            due("all 52", x.rounds(0, 52), 4);
            long[] last = {d(1), NAN, INF, 0, d(2), -1L, MINUS_INF, MINUS_ZERO, 0x7fe0000000000000L};
            dueValues("all 52", x, last);
            SeriesPress y = begun(24);
            y.add(0, 0, 3);
            y.add(0, 1, 3);
            y.begins(1, 24);
            y.add(1, 0, 3);
            due("two of another series are there", y.count(0, 6), 2);
            due("of one alone", y.rounds(1, 1), 1);
        });
        says(NO_SUCH_AND, () -> {
            SeriesPress x = spoilt();
            for (int bits : new int[] {0, 53, 64, -1, LEAST_INT, GREATEST_INT}) {
                stays("bits " + bits, x, () -> x.rounds(0, bits), -2);
            }
            for (int s : NO_SERIES) {
                due("series " + s, x.rounds(s, 1), -2);
            }
        });
        says("-6, -4 as merge().", () -> {
            SeriesPress x = spoilt();
            stays("broken", x, () -> x.rounds(0, 1), -6);
            SeriesPress y = single(16);
            // No numbers stay as they are, and each fills a block.
            y.late(0, 500000, 0x7ff0000000000001L);
            stays("a 17th", y, () -> y.rounds(0, 1), -4);
        });
    }

    static void dueValues(String what, SeriesPress x, long[] values) {
        for (int i = 0; i < values.length; i++) {
            due(what + ", value " + i, x.at(0, i), values[i]);
        }
    }

    static void rounded() {
        section("Promise 31: rounded");
        says("How many bytes all BLOCKS would have by that.", () -> {
            SeriesPress x = begun(40);
            due("without points", x.rounded(0, 1), 0);
            for (int i = 0; i < 12; i++) {
                x.add(0, 7 * i, d(i / 7.0));
            }
            x.late(0, 8, d(0.3));
            x.late(0, 14, NAN);
            for (int bits : new int[] {1, 2, 26, 51, 52}) {
                x.copy(0, 1);
                x.rounds(1, bits);
                int bytes = x.count(1, 4);
                due("bits " + bits, x.rounded(0, bits), bytes);
            }
            stays("nothing happens", x, () -> x.rounded(0, 52), x.count(1, 4));
            SeriesPress y = begun(24);
            y.add(0, 0, d(1.5));
            due("one point", y.rounded(0, 52), 14);
            y.add(0, 1, d(1));
            // 9 bits and one: the same then.
            due("two points", y.rounded(0, 52), 16);
        });
        says("-2, -6 likewise;", () -> {
            SeriesPress x = spoilt();
            due("broken", x.rounded(0, 1), -6);
            for (int bits : new int[] {0, 53, 64, -1, LEAST_INT, GREATEST_INT}) {
                due("bits " + bits, x.rounded(0, bits), -2);
            }
            for (int s : NO_SERIES) {
                due("series " + s, x.rounded(s, 1), -2);
            }
        });
        says("-4: more than 16 BLOCKS.", () -> {
            SeriesPress x = single(16);
            due("16", x.rounded(0, 1), 15 * 15 + 14);
            x.late(0, 500000, 0x7ff0000000000001L);
            stays("17", x, () -> x.rounded(0, 1), -4);
            due("so many that no room would do", fullest().rounded(0, 1), -4);
        });
    }

    // ---- 32 to 38

    static void dearest() {
        section("Promise 32: dearest");
        says("Of POINTS of BLOCKS that are SOUND (HEADS aside) that which takes most bits, of several the first, what 0: its"
                + " stamp, 1: how many bits.", () -> {
            SeriesPress x = begun(200);
            x.add(0, 0, 0);
            x.add(0, 1, 0);
            x.add(0, 2, 0);
            x.add(0, 4, 0);
            due("the first of several", x.dearest(0, 0), 1);
            due("its bits", x.dearest(0, 1), 10);
            x.late(0, 3, -1);
            due("a late one aside", x.dearest(0, 0), 1);
            x.late(0, 1, -1);
            due("though a late one stands in its place", x.dearest(0, 1), 10);
            x.seals(0);
            x.add(0, 100000, -1);
            due("a head aside", x.dearest(0, 0), 1);
            x.add(0, 100001, -1);
            due("of several in two blocks the first", x.dearest(0, 0), 1);
            x.add(0, MAX, 0);
            due("in the open one", x.dearest(0, 0), MAX);
            due("in the open one, its bits", x.dearest(0, 1), 36 + 13 + 64);
            x.seals(0);
            x.damage(0, 1, 0, 1);
            due("a broken one aside", x.dearest(0, 0), 1);
        });
        says("NONE: there is none;", () -> {
            due("no blocks", begun(24).dearest(0, 0), NONE);
            due("no blocks, bits", begun(24).dearest(0, 1), NONE);
            due("sixteen heads alone", single(16).dearest(0, 0), NONE);
            due("sixteen heads alone, bits", single(16).dearest(0, 1), NONE);
            SeriesPress x = begun(24);
            x.add(0, 0, 0);
            x.add(0, 1, 0);
            x.seals(0);
            x.damage(0, 0, 0, 1);
            due("broken", x.dearest(0, 0), NONE);
            x.damage(0, 0, 0, 0);
            due("there is one", x.dearest(0, 0), 1);
            x.drops(0, 0);
            due("it is gone", x.dearest(0, 0), NONE);
        });
        says(NO_SUCH, () -> {
            SeriesPress x = single(2);
            for (int what : notBelow(2)) {
                due("what " + what, x.dearest(0, what), -2);
            }
            for (int s : NO_SERIES) {
                due("series " + s, x.dearest(s, 0), -2);
            }
        });
    }

    static void where() {
        section("Promise 33: where");
        says("The BLOCK in which the POINT of a stamp is.", () -> {
            SeriesPress x = begun(24);
            x.add(0, 0, 0);
            x.add(0, 5, 0);
            x.add(0, 9, 0);
            x.seals(0);
            x.add(0, 10, 0);
            x.seals(0);
            x.add(0, MAX, 0);
            due("the first of a block", x.where(0, 0), 0);
            due("within it", x.where(0, 5), 0);
            due("the last of it", x.where(0, 9), 0);
            due("alone in it", x.where(0, 10), 1);
            due("in the open one", x.where(0, MAX), 2);
            x.drops(0, 0);
            due("by its number then", x.where(0, 10), 0);
            due("the 16th", single(16).where(0, 15000000), 15);
        });
        says("NONE: a LATE one, there is none;", () -> {
            SeriesPress x = spoilt();
            due("a late one", x.where(0, 15), NONE);
            x.late(0, 10, 0);
            due("a late one in place of one", x.where(0, 10), NONE);
            due("of a broken one", x.where(0, 0), NONE);
            due("between two", x.where(0, 16), NONE);
            due("ahead of the open one", x.where(0, 9), NONE);
            due("above LAST", x.where(0, 21), NONE);
            due("no blocks", begun(24).where(0, 0), NONE);
            due("sixteen blocks", single(16).where(0, MAX), NONE);
            x.drops(0, 1);
            due("of one that is gone", x.where(0, 20), NONE);
        });
        says(NO_SUCH, () -> {
            SeriesPress x = single(2);
            for (int stamp : NO_STAMPS) {
                due("stamp " + stamp, x.where(0, stamp), -2);
            }
            for (int s : NO_SERIES) {
                due("series " + s, x.where(s, 0), -2);
            }
        });
    }

    static void copy() {
        section("Promise 34: copy");
        says("A SERIES is as another one: 0.", () -> {
            SeriesPress x = spoilt();
            x.add(0, 21, 0xff05);
            due("to one that is none", x.copy(0, 3), 0);
            dueText("as it", look(x, 3), look(x, 0));
            for (int b = 0; b < 2; b++) {
                dueText("bytes of " + b, bytesOf(x, 3, b).toString(), bytesOf(x, 0, b).toString());
            }
            due("goes on alike", x.would(3, 22, 5), x.would(0, 22, 5));
            x.begins(2, 200);
            x.add(2, 30, 1);
            x.late(2, 7, 1);
            x.late(2, 8, 1);
            due("to another one", x.copy(0, 2), 0);
            dueText("as it too", look(x, 2), look(x, 0));
        });
        says("A SERIES is as another one: 0.", () -> {
            SeriesPress x = spoilt();
            stays("to itself", x, () -> x.copy(0, 0), 0);
            x.copy(0, 3);
            String was = look(x, 0);
            x.late(3, 3, 9);
            x.damage(3, 0, 0, 0);
            x.add(3, 22, 5);
            dueText("the first stays when the copy changes", look(x, 0), was);
            due("the copy is sound again", x.fault(3, 0, 0), 0);
        });
        says("A SERIES is as another one: 0.", () -> {
            SeriesPress x = with(1, 1.5, 2.5);
            x.would(0, 1000, d(-7));
            x.copy(0, 1);
            due("what a point would take", x.would(1, 40, d(2.25)), x.would(0, 40, d(2.25)));
            x.add(0, 40, d(2.25));
            x.add(1, 40, d(2.25));
            dueText("a point that comes to both", bytesOf(x, 1, 0).toString(), bytesOf(x, 0, 0).toString());
            due("no first difference", x.differ(0, 1), NONE);
            SeriesPress y = holding(sealed(0, 5, 9, "10 0000001 0"));
            y.copy(0, 1);
            due("a fault", y.fault(1, 0, 0), 2);
            due("its place", y.fault(1, 0, 1), 16);
            SeriesPress z = single(16);
            z.copy(0, 1);
            due("sixteen blocks", z.count(1, 2), 16);
            due("sixteen blocks, alike", z.differ(0, 1), NONE);
        });
        says("A SERIES is as another one: 0.", () -> {
            SeriesPress x = single(16);
            x.begins(1, 60);
            due("one without points", x.copy(1, 0), 0);
            dueText("none is left", look(x, 0), look(x, 1));
            due("any stamp comes", x.add(0, 0, 1), 0);
        });
        says(NO_SUCH, () -> {
            for (int s : NO_SERIES) {
                SeriesPress x = single(2);
                stays("series " + s, x, () -> x.copy(s, 0), -2);
            }
            for (int s : new int[] {-1, 4, LEAST_INT, GREATEST_INT}) {
                SeriesPress x = single(2);
                stays("to " + s, x, () -> x.copy(0, s), -2);
            }
        });
    }

    /** Each change of one byte by which block 0 is sound, as byte and what it becomes, found by trying all. */
    static List<int[]> changes(List<Integer> bytes) {
        List<int[]> found = new ArrayList<>();
        for (int i = 0; i < bytes.size(); i++) {
            SeriesPress x = holding(bytes);
            for (int to = 0; to < 256; to++) {
                if (to == 128) {
                    x = holding(bytes);
                }
                x.damage(0, 0, i, to);
                if (to != bytes.get(i) && x.fault(0, 0, 0) == 0) {
                    found.add(new int[] {i, to});
                }
            }
        }
        return found;
    }

    /** Blocks of stamps from 0 on that are broken, in several ways. */
    static List<List<Integer>> brokenOnes() {
        List<List<Integer>> all = new ArrayList<>();
        for (int i = 0; i < 17; i++) {
            List<Integer> bytes = new ArrayList<>(soundOf(17));
            bytes.set(i, (bytes.get(i) + 9) % 251);
            all.add(bytes);
        }
        List<Integer> ones = sealed(0, -1, 1, "");
        ones.set(7, 30);
        all.add(ones);
        List<Integer> check = new ArrayList<>(soundOf(15));
        check.set(14, 255);
        all.add(check);
        all.add(sealed(0, 5, 0, ""));
        all.add(sealed(0, 5, 9, "10 0000001 0 00 00 00"));
        all.add(sealed(251, 5, 1, ""));
        all.add(sealed(1, 5, 1, ""));
        all.add(sealed(0, 5, 4, "10 0000001 0 00 00 10"));
        return all;
    }

    static void mends() {
        section("Promise 35: mends");
        says("How many changes of one byte of a BROKEN BLOCK there are by which it is SOUND", () -> {
            int most = 0;
            for (List<Integer> bytes : brokenOnes()) {
                SeriesPress x = holding(bytes);
                int found = changes(bytes).size();
                stays("as by trying all, " + bytes, x, () -> x.mends(0, 0), found);
                most = Math.max(most, found);
            }
            due("there were many once", most >= 9 ? 1 : 0, 1);
            // 0 and 251 are alike to the check.
            due("another stamp, the check is right", holding(sealed(251, 5, 1, "")).mends(0, 0), 1);
            due("one byte is not enough", holding(sealed(1, 5, 1, "")).mends(0, 0), 0);
            List<Integer> check = new ArrayList<>(soundOf(15));
            check.set(14, 255);
            due("a check that can be none", holding(check).mends(0, 0), 1);
        });
        says("(0 of one that is SOUND, open).", () -> {
            SeriesPress x = single(2);
            due("sound", x.mends(0, 0), 0);
            due("open", x.mends(0, 1), 0);
        });
        says(NO_SUCH, () -> {
            SeriesPress x = single(2);
            for (int b : notBelow(2)) {
                due("block " + b, x.mends(0, b), -2);
            }
            for (int s : NO_SERIES) {
                due("series " + s, x.mends(s, 0), -2);
            }
        });
    }

    static void mend() {
        section("Promise 36: mend");
        says("Of the i-th of these (from 0; by byte, then by what it becomes), what 0: which byte, 1: what it becomes.",
                () -> {
            boolean twice = false;
            for (List<Integer> bytes : brokenOnes()) {
                SeriesPress x = holding(bytes);
                List<int[]> found = changes(bytes);
                for (int i = 0; i < found.size(); i++) {
                    due("byte of " + i, x.mend(0, 0, i, 0), found.get(i)[0]);
                    due("what it becomes, " + i, x.mend(0, 0, i, 1), found.get(i)[1]);
                    twice |= i > 0 && found.get(i)[0] == found.get(i - 1)[0];
                }
                due("no more", x.mend(0, 0, found.size(), 0), NONE);
            }
            due("a byte with two of them was there", twice ? 1 : 0, 1);
        });
        says("NONE: not so many, i is below 0;", () -> {
            SeriesPress x = holding(sealed(251, 5, 1, ""));
            due("the only one", x.mend(0, 0, 0, 0), 3);
            due("the only one, what it becomes", x.mend(0, 0, 0, 1), 0);
            for (int what = 0; what < 2; what++) {
                for (int i : notBelow(1)) {
                    due("the one " + i, x.mend(0, 0, i, what), NONE);
                }
                due("of a sound one", single(2).mend(0, 0, 0, what), NONE);
                due("of an open one", single(2).mend(0, 1, 0, what), NONE);
            }
        });
        says(NO_SUCH, () -> {
            SeriesPress x = holding(sealed(251, 5, 1, ""));
            for (int what : notBelow(2)) {
                due("what " + what, x.mend(0, 0, 0, what), -2);
            }
            for (int b : notBelow(1)) {
                due("block " + b, x.mend(0, b, 0, 0), -2);
            }
            for (int s : NO_SERIES) {
                due("series " + s, x.mend(s, 0, 0, 0), -2);
            }
        });
    }

    static void seals() {
        section("Promise 37: seals");
        says("The open BLOCK is sealed: its bytes then.", () -> {
            SeriesPress x = begun(24);
            x.add(0, 5, 1);
            due("one point", x.seals(0), 15);
            due("sealed", x.block(0, 0, 5), 1);
            due("its check", x.octet(0, 0, 14), checkOf(bytesOf(x, 0, 0).subList(0, 14)));
            due("sound", x.fault(0, 0, 0), 0);
            due("the next point begins another", x.add(0, 6, 1), 1);
            x.add(0, 7, 1);
            due("two points", x.seals(0), 17);
            SeriesPress y = begun(24);
            y.add(0, 0, 0);
            y.add(0, 1, 1L << 63 | 1L << 14);
            due("up to its room", y.seals(0), 24);
            SeriesPress z = holding(soundOf(200));
            z.merge(0);
            due("199 bytes, open", z.block(0, 0, 3), 199);
            due("200 bytes", z.seals(0), 200);
        });
        says("-2: there is no such SERIES;", () -> {
            SeriesPress x = single(1);
            for (int s : NO_SERIES) {
                stays("series " + s, x, () -> x.seals(s), -2);
            }
        });
        says("-5: none is open.", () -> {
            SeriesPress x = begun(24);
            stays("no blocks", x, () -> x.seals(0), -5);
            x.add(0, 5, 1);
            x.seals(0);
            stays("sealed already", x, () -> x.seals(0), -5);
            x.add(0, 6, 1);
            x.drops(0, 1);
            stays("the open one is gone", x, () -> x.seals(0), -5);
            tape(x, sealed(7, 1, 1, ""));
            x.takes(0);
            stays("one came sealed", x, () -> x.seals(0), -5);
            x.damage(0, 1, 0, 1);
            stays("the last is broken", x, () -> x.seals(0), -5);
        });
    }

    static void drops() {
        section("Promise 38: drops");
        says("A BLOCK goes, whatever it is (LATE ones, LAST stay): BLOCKS left.", () -> {
            SeriesPress x = begun(24);
            for (int i = 0; i < 4; i++) {
                x.add(0, 10 * i, i);
                if (i < 3) {
                    x.seals(0);
                }
            }
            x.late(0, 10, 7);
            x.late(0, 15, 7);
            x.damage(0, 1, 0, 1);
            due("a broken one", x.drops(0, 1), 3);
            due("none is broken", x.count(0, 5), 0);
            dueText("the others, late ones stay", stampsOf(x), "[0, 10, 15, 20, 30]");
            due("the next one moves up", x.block(0, 1, 0), 20);
            due("the open one goes on", x.add(0, 31, 3), 2);
            due("a sealed one, the first", x.drops(0, 0), 2);
            due("the open one goes on again", x.add(0, 32, 3), 1);
            due("the open one", x.drops(0, 1), 1);
            due("LAST stays", x.count(0, 7), 32);
            due("late ones stay", x.count(0, 3), 2);
            due("the sealed one stays sealed", x.block(0, 0, 5), 1);
            due("the last one", x.drops(0, 0), 0);
            dueText("late ones alone", stampsOf(x), "[10, 15]");
            due("LAST stays still", x.add(0, 32, 0), -5);
            due("a new one begins", x.add(0, 33, 0), 0);
        });
        says(NO_SUCH, () -> {
            SeriesPress x = single(2);
            for (int b : notBelow(2)) {
                stays("block " + b, x, () -> x.drops(0, b), -2);
            }
            for (int s : NO_SERIES) {
                due("series " + s, x.drops(s, 0), -2);
            }
            due("no blocks", begun(24).drops(0, 0), -2);
        });
    }

    // ---- 39 to 42

    static void least() {
        section("Promise 39: least");
        says("The k-th least (from 0; of like numbers the earlier one first) of the numbers with stamps from .. to: its"
                + " bits.", () -> {
            SeriesPress x = begun(200);
            long[] values = {d(3), MINUS_ZERO, NAN, d(3), 0, d(-5), INF, MINUS_INF, d(1), MINUS_ZERO, 1, MINUS_ZERO | 1};
            for (int i = 0; i < values.length; i++) {
                x.add(0, 10 * i, values[i]);
            }
            long[] order = {MINUS_INF, d(-5), MINUS_ZERO | 1, MINUS_ZERO, 0, MINUS_ZERO, 1, d(1), d(3), d(3), INF};
            for (int k = 0; k < order.length; k++) {
                due("" + k, x.least(0, 0, 110, k), order[k]);
            }
            due("on the edges, the least", x.least(0, 10, 40, 0), MINUS_ZERO);
            due("on the edges, the next", x.least(0, 10, 40, 1), 0);
            due("on the edges, the last", x.least(0, 10, 40, 2), d(3));
            due("of like ones the earlier first", with(0.0, -0.0).least(0, 10, 20, 0), 0);
            due("of like ones the later then", with(0.0, -0.0).least(0, 10, 20, 1), MINUS_ZERO);
            x.late(0, 45, d(-9));
            due("a late one", x.least(0, 0, 110, 1), d(-9));
        });
        says("NO_NUMBER: not so many, there are none such.", () -> {
            SeriesPress x = mixed();
            due("the last of six", x.least(0, 0, 70, 5), INF);
            for (int k : notBelow(6)) {
                due("k " + k, x.least(0, 0, 70, k), NO_NUMBER);
            }
            due("no points", x.least(0, 1, 9, 0), NO_NUMBER);
            due("no numbers", x.least(0, 10, 10, 0), NO_NUMBER);
            due("from above to", x.least(0, 70, 0, 0), NO_NUMBER);
            for (int s : NO_SERIES) {
                due("series " + s, x.least(s, 0, 70, 0), NO_NUMBER);
            }
        });
    }

    static void passes() {
        section("Promise 40: passes");
        says("How often of two numbers, POINTS side by side, one is less than a number, told by its bits, the other not.",
                () -> {
            SeriesPress x = with(1, 3, 3, Double.NaN, 1, 2, 3, -0.0, 0.0);
            due("2: up, down, not over one that is none", x.passes(0, d(2)), 3);
            due("3: it is not less than itself", x.passes(0, d(3)), 3);
            due("1", x.passes(0, d(1)), 1);
            due("-0.0", x.passes(0, MINUS_ZERO), 0);
            due("0.0", x.passes(0, 0), 0);
            due("just above 0", x.passes(0, 1), 1);
            due("just below 0", x.passes(0, MINUS_ZERO | 1), 0);
            due("infinite", x.passes(0, INF), 0);
            due("up to infinite", with(1, Double.POSITIVE_INFINITY).passes(0, d(2)), 1);
            due("up from -infinite", with(Double.NEGATIVE_INFINITY, 1).passes(0, 0), 1);
            due("infinite ones", with(Double.POSITIVE_INFINITY, 1, Double.NEGATIVE_INFINITY).passes(0, INF), 1);
            due("-infinite: none is less", with(1, Double.NEGATIVE_INFINITY).passes(0, MINUS_INF), 0);
            due("over one that is none", with(1, Double.NaN, 3).passes(0, d(2)), 0);
            due("one point", with(1).passes(0, d(2)), 0);
            due("no points", begun(24).passes(0, 0), 0);
            x.late(0, 15, d(0));
            due("a late one between", x.passes(0, d(1)), 3);
            SeriesPress y = begun(24);
            y.add(0, 0, d(1));
            y.seals(0);
            y.add(0, 10, d(3));
            due("over two blocks", y.passes(0, d(2)), 1);
        });
        says(NO_SUCH_AND, () -> {
            SeriesPress x = mixed();
            for (int s : NO_SERIES) {
                due("series " + s, x.passes(s, 0), -2);
                due("series " + s + ", no number", x.passes(s, NAN), -2);
            }
        });
        says("NONE: it is no number.", () -> {
            due("no number", mixed().passes(0, NAN), NONE);
            due("NO_NUMBER", mixed().passes(0, NO_NUMBER), NONE);
            due("no points", begun(24).passes(0, NAN), NONE);
        });
    }

    static void since() {
        section("Promise 41: since");
        says("The stamp of the last POINT that is not above a stamp.", () -> {
            SeriesPress x = spoilt();
            int[][] rows = {{10, 10}, {11, 10}, {14, 10}, {15, 15}, {19, 15}, {20, 20}, {21, 20}, {MAX, 20}};
            for (int[] r : rows) {
                due("" + r[0], x.since(0, r[0]), r[1]);
            }
            x.add(0, MAX, 0);
            due("2000000000", x.since(0, MAX), MAX);
            due("one less", x.since(0, MAX - 1), 20);
            x.late(0, 0, 0);
            due("0", x.since(0, 0), 0);
            due("over a late one", x.since(0, 9), 0);
        });
        says("NONE: there is none;", () -> {
            due("no points", begun(24).since(0, MAX), NONE);
            due("all are above", spoilt().since(0, 9), NONE);
            due("a broken one aside", spoilt().since(0, 0), NONE);
        });
        says(NO_SUCH, () -> {
            SeriesPress x = single(2);
            for (int stamp : NO_STAMPS) {
                due("stamp " + stamp, x.since(0, stamp), -2);
            }
            for (int s : NO_SERIES) {
                due("series " + s, x.since(s, 0), -2);
            }
        });
    }

    static void area() {
        section("Promise 42: area");
        says("The sum, one to the next from 0.0 on, of POINTS with stamps from .. to but for the last of them: the number"
                + " times how far the next POINT is", () -> {
            SeriesPress x = begun(200);
            due("no points", x.area(0, 0, 9), 0);
            int[] stamps = {0, 10, 15, 100, 101};
            double[] values = {2, -1, 8, 0.5, 9};
            for (int i = 0; i < 5; i++) {
                x.add(0, stamps[i], d(values[i]));
            }
            due("all", x.area(0, 0, 101), d(20 - 5 + 680 + 0.5));
            due("but for the last of them", x.area(0, 0, 100), d(20 - 5 + 680));
            due("the last of them is not that of all", x.area(0, 0, 99), d(20 - 5));
            due("one alone", x.area(0, 10, 14), 0);
            due("none", x.area(0, 1, 9), 0);
            due("two", x.area(0, 100, 101), d(0.5));
            x.late(0, 5, d(4));
            due("a late one", x.area(0, 0, 10), d(10 + 20));
            due("from 0.0 on: -0.0", with(-0.0, 1).area(0, 10, 20), 0);
            due("one to the next", with(1e16, 0.1, 0.1, -1e16, 1).area(0, 10, 50), d(0.0 + 1e17 + 1 + 1 - 1e17));
        });
        says("(as a double; no numbers left out): its bits.", () -> {
            SeriesPress x = begun(200);
            x.add(0, 0, d(0.1));
            x.add(0, MAX, d(1));
            due("0.1 times 2000000000", x.area(0, 0, MAX), d(0.1 * 2e9));
            due("the least times 10", with(Double.MIN_VALUE, 0).area(0, 10, 20), 10);
            due("too great", with(Double.MAX_VALUE, 0).area(0, 10, 20), INF);
            due("infinite", with(Double.NEGATIVE_INFINITY, 0).area(0, 10, 20), MINUS_INF);
            due("one that is none is left out", with(2, Double.NaN, 3, 4).area(0, 10, 40), d(20 + 30));
            due("none but such", with(Double.NaN, Double.NaN).area(0, 10, 20), 0);
            due("the last is none", with(2, Double.NaN).area(0, 10, 20), d(20));
        });
        says("NO_NUMBER: there are none such, the sum is none.", () -> {
            SeriesPress x = with(Double.POSITIVE_INFINITY, Double.NEGATIVE_INFINITY, 0, 1);
            due("the sum is none", x.area(0, 10, 30), NO_NUMBER);
            due("the sum is none from there on", x.area(0, 10, 40), NO_NUMBER);
            due("it is one ahead of that", x.area(0, 10, 20), INF);
            due("from above to", x.area(0, 20, 10), NO_NUMBER);
            for (int s : NO_SERIES) {
                due("series " + s, x.area(s, 10, 20), NO_NUMBER);
            }
        });
    }

    // ---- 43 to 46

    static void feed() {
        section("Promise 43: feed");
        says("Twenty bytes come behind the TAPE, four of each number, the highest first: how many it has;", () -> {
            SeriesPress x = new SeriesPress();
            for (int i = 1; i <= 10; i++) {
                due("twenty more", x.feed(i, i, i, i, i), 20 * i);
            }
            SeriesPress y = begun(30);
            List<Integer> bytes = checked(List.of(1, 2, 3, 4, 0xf5, 0xf6, 0xf7, 0xf8, 0xf9, 0xfa, 0xfb, 0xfc, 0, 2, 0x80,
                    0x80));
            due("numbers below 0", y.feed(0x01020304, 0xf5f6f7f8, 0xf9fafbfc, 0x00028080, bytes.get(16) << 24), 20);
            y.end(17);
            due("they come", y.takes(0), 0);
            dueText("as they are", bytesOf(y, 0, 0).toString(), bytes.toString());
            due("behind what is there", y.feed(1, 2, 3, 4, 5) + y.end(3) + y.feed(1, 2, 3, 4, 5), 20 + 3 + 23);
        });
        says("NONE, and none come, if it would have more than 200.", () -> {
            SeriesPress x = new SeriesPress();
            for (int i = 0; i < 10; i++) {
                x.feed(0, 0, 0, 0, 0);
            }
            due("220", x.feed(1, 2, 3, 4, 5), NONE);
            due("none come", x.taped(), 200);
            x.end(181);
            due("201", x.feed(1, 2, 3, 4, 5), NONE);
            due("none come", x.taped(), 181);
            x.end(180);
            due("200", x.feed(1, 2, 3, 4, 5), 200);
        });
    }

    static void end() {
        section("Promise 44: end");
        says("The TAPE has its first n bytes alone: n;", () -> {
            SeriesPress x = begun(24);
            due("0 of none", x.end(0), 0);
            x.feed(0, 0, 0, 121600, 0);
            due("all", x.end(20), 20);
            due("15", x.end(15), 15);
            due("the first 15 are there", x.takes(0), 0);
            x.feed(1, 2, 3, 4, 5);
            due("0", x.end(0), 0);
            due("none is left", x.taped(), 0);
            due("what comes then is the first", x.feed(0, 0, 0, 121600, 0), 20);
            x.end(15);
            due("it is read so", x.takes(0), -5);
        });
        says("NONE, and nothing happens, if it has not so many, or n is below 0.", () -> {
            SeriesPress x = new SeriesPress();
            due("1 of none", x.end(1), NONE);
            x.feed(1, 2, 3, 4, 5);
            x.end(19);
            for (int n : new int[] {20, 21, 200, GREATEST_INT, -1, LEAST_INT}) {
                due("" + n, x.end(n), NONE);
                due("nothing happens", x.taped(), 19);
            }
        });
    }

    static void takes() {
        section("Promise 45: takes");
        takesTape();
        takesFaults();
        takesRefused();
    }

    /** A second point, two behind the first, of the same value. */
    static final String TWO_BEHIND = "10 0000010 0";

    static void takesTape() {
        says("The TAPE (empty then, but for -2) comes as a sealed BLOCK behind all: its number.", () -> {
            SeriesPress x = begun(24);
            List<Integer> bytes = sealed(7, 5, 2, TWO_BEHIND);
            tape(x, bytes);
            due("the first", x.takes(0), 0);
            due("the tape is empty", x.taped(), 0);
            dueText("as it was", bytesOf(x, 0, 0).toString(), bytes.toString());
            due("sealed", x.block(0, 0, 5), 1);
            due("sound", x.fault(0, 0, 0), 0);
            due("LAST", x.count(0, 7), 9);
            dueText("its points", stampsOf(x), "[7, 9]");
            tape(x, sealed(10, 5, 1, ""));
            due("the next", x.takes(0), 1);
            due("a point begins another", x.add(0, 11, 5), 2);
            due("it is open", x.block(0, 2, 5), 0);
            tape(x, sealed(12, 5, 1, ""));
            due("behind an open one", x.takes(0), 3);
            due("which is sealed", x.block(0, 2, 5), 1);
            due("with its check", x.block(0, 2, 3), 15);
            due("and sound", x.fault(0, 2, 0), 0);
            due("a point begins another again", x.add(0, 13, 5), 4);
            tape(x, sealed(MAX, 5, 1, ""));
            due("up to 2000000000", x.takes(0), 5);
        });
        says("(empty then, but for -2)", () -> {
            SeriesPress x = begun(24);
            x.feed(1, 2, 3, 4, 5);
            due("-2", x.takes(1), -2);
            due("it stays", x.taped(), 20);
            due("a fault", x.takes(0), -11);
            due("it is empty", x.taped(), 0);
            tape(x, sealed(0, 5, 2, "1111" + low(500000, 32) + anew(0, "1".repeat(64))));
            due("-3", x.takes(0), -3);
            due("it is empty then", x.taped(), 0);
            x.add(0, 5, 5);
            tape(x, sealed(5, 5, 1, ""));
            due("-5", x.takes(0), -5);
            due("it is empty then too", x.taped(), 0);
            SeriesPress y = single(16);
            tape(y, sealed(MAX, 5, 1, ""));
            due("-4", y.takes(0), -4);
            due("it is empty at last", y.taped(), 0);
        });
    }

    static void takesFaults() {
        says("-2: there is no such SERIES;", () -> {
            SeriesPress x = single(1);
            tape(x, sealed(MAX, 5, 1, ""));
            for (int s : NO_SERIES) {
                stays("series " + s, x, () -> x.takes(s), -2);
            }
            due("it comes then", x.takes(0), 1);
        });
        says("-10 less its FAULT;", () -> {
            SeriesPress x = begun(24);
            x.add(0, 5, 5);
            due("no bytes", x.takes(0), -11);
            List<List<Integer>> faults = List.of(List.of(1), sealed(7, 5, 9, TWO_BEHIND), sealed(7, 5, 2, "0 0"),
                    sealed(7, 5, 2, "110 000000010 0"), sealed(7, 5, 0, TWO_BEHIND), sealed(7, 5, 2, TWO_BEHIND + "000001"));
            for (int fault = 1; fault <= 6; fault++) {
                tape(x, faults.get(fault - 1));
                due("fault " + fault, x.takes(0), -10 - fault);
                due("none came", x.count(0, 2), 1);
                due("the open one is open", x.block(0, 0, 5), 0);
                due("LAST", x.count(0, 7), 5);
            }
        });
    }

    static void takesRefused() {
        says("-3: it has more than ROOM bytes;", () -> {
            // 36 + 13 + 23 bits are 9 bytes: 24 with head and check.
            SeriesPress x = begun(24);
            tape(x, sealed(0, 5, 2, "1111" + low(500000, 32) + anew(0, "1".repeat(23))));
            due("24 bytes", x.takes(0), 0);
            tape(x, sealed(500001, 5, 2, "1111" + low(500000, 32) + anew(0, "1".repeat(24))));
            due("25 bytes", x.takes(0), -3);
            due("none came", x.count(0, 2), 1);
            x.repack(0, 25);
            tape(x, sealed(500001, 5, 2, "1111" + low(500000, 32) + anew(0, "1".repeat(24))));
            due("25 bytes, a byte more of room", x.takes(0), 1);
            SeriesPress y = begun(200);
            tape(y, soundOf(200));
            due("200 bytes", y.takes(0), 0);
            y.begins(0, 199);
            tape(y, soundOf(200));
            due("200 bytes, a byte less of room", y.takes(0), -3);
        });
        says("-5: its first stamp is not above LAST;", () -> {
            SeriesPress x = begun(24);
            x.add(0, 5, 5);
            tape(x, sealed(5, 6, 2, TWO_BEHIND));
            due("it is LAST", x.takes(0), -5);
            due("the open one is open", x.block(0, 0, 5), 0);
            tape(x, sealed(4, 6, 2, TWO_BEHIND));
            due("it is below", x.takes(0), -5);
            x.drops(0, 0);
            tape(x, sealed(5, 6, 2, TWO_BEHIND));
            due("LAST of what is gone", x.takes(0), -5);
            tape(x, sealed(6, 6, 2, TWO_BEHIND));
            due("it is above", x.takes(0), 0);
            SeriesPress y = begun(24);
            tape(y, sealed(0, 6, 2, TWO_BEHIND));
            due("there is no LAST", y.takes(0), 0);
        });
        says("-4: there would be a 17th BLOCK.", () -> {
            SeriesPress x = single(16);
            tape(x, sealed(15000001, 5, 1, ""));
            due("a 17th", x.takes(0), -4);
            due("the open one is open", x.block(0, 15, 5), 0);
            due("LAST", x.count(0, 7), 15000000);
            x.drops(0, 3);
            tape(x, sealed(15000001, 5, 1, ""));
            due("a 16th", x.takes(0), 15);
        });
        says("(The first of these as they stand.)", () -> {
            String wide = "1111" + low(500000, 32) + anew(0, "1".repeat(64));
            SeriesPress x = single(16);
            tape(x, sealed(0, 5, 9, wide));
            due("-2 ahead of all", x.takes(1), -2);
            due("a fault ahead of -3, -5, -4", x.takes(0), -12);
            tape(x, sealed(0, 5, 2, wide));
            due("-3 ahead of -5, -4", x.takes(0), -3);
            tape(x, sealed(15000000, 5, 1, ""));
            due("-5 ahead of -4", x.takes(0), -5);
            tape(x, sealed(15000001, 5, 1, ""));
            due("-4", x.takes(0), -4);
        });
    }

    static void taped() {
        section("Promise 46: taped");
        says("How many bytes the TAPE has.", () -> {
            SeriesPress x = new SeriesPress();
            due("none", x.taped(), 0);
            x.feed(1, 2, 3, 4, 5);
            due("20", x.taped(), 20);
            x.end(7);
            due("7", x.taped(), 7);
            x.begins(0, 24);
            due("7 still", x.taped(), 7);
            for (int i = 0; i < 9; i++) {
                x.feed(1, 2, 3, 4, 5);
            }
            due("187", x.taped(), 187);
            x.takes(0);
            due("none again", x.taped(), 0);
        });
    }
}
