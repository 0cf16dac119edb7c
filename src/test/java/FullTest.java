/** The most that a series can hold, 737 points in each of 16 blocks and 20 late ones, as the terms' limits have it. */
public final class FullTest extends DocumentTest {
    static final int POINTS = 16 * 737;

    public static void main(String[] args) throws Exception {
        reads("Terms");
        section("Terms");
        SeriesPress x = begun(200);
        says("I. A SERIES has BLOCKS, 16 at most,", () -> blocks(x));
        says("PACKED anew: so from the first POINT on; the last BLOCK stays open.", () -> packed(x));
        says("and LATE POINTS, 20 at most.", () -> late(x));
        says("BROKEN: with a FAULT; SOUND: without.", () -> broken(x));
        endsWithin();
    }

    static int stampOf(int point) {
        return 2 * point;
    }

    static void blocks(SeriesPress x) {
        for (int b = 0; b < 16; b++) {
            tape(x, sealed(stampOf(737 * b), 5, 737, "10 0000010 0" + "00".repeat(735)));
            due("45: block " + b, x.takes(0), b);
        }
        due("7: points", x.count(0, 6), POINTS);
        due("15: the last", x.point(0, POINTS - 1, 0), stampOf(POINTS - 1));
        due("16: opened", x.span(0, 0, MAX, 1), 16);
        due("19: class 0", x.ways(0, 0), 16 * 735);
        due("19: class 1", x.ways(0, 1), 16);
        due("22: row", x.row(0, 0), POINTS);
        due("39: the greatest", x.least(0, 0, MAX, POINTS - 1), 5);
    }

    static void packed(SeriesPress x) {
        due("25: best", x.best(0), 200);
        due("6: merge", x.merge(0), 16);
        due("7: points then", x.count(0, 1), POINTS);
        x.copy(0, 1);
        due("29: join with its copy", x.join(0, 1, 2), 16);
        due("24: alike", x.differ(0, 2), NONE);
        due("3: nothing fits", x.add(1, stampOf(POINTS), 5), -4);
        due("26: a byte less of room", x.repack(1, 199), -4);
        due("31: bytes", x.rounded(0, 1), 16 * 200 - 1);
        due("27: every other one goes", x.thin(1, 4), POINTS / 2);
    }

    static void late(SeriesPress x) {
        for (int i = 0; i < 20; i++) {
            x.late(0, stampOf(i) + 1, 5);
        }
        due("7: points with late ones", x.count(0, 6), POINTS + 20);
        due("15: the last", x.point(0, POINTS + 19, 0), stampOf(POINTS - 1));
        due("39: the greatest", x.least(0, 0, MAX, POINTS + 19), 5);
        due("39: one more", x.least(0, 0, MAX, POINTS + 20), NO_NUMBER);
        due("25: by none", x.best(0), NONE);
        due("6: more than 16", x.merge(0), -4);
        due("29: join, more than 16", x.join(2, 0, 3), -4);
        due("23: both", x.both(0, 2, 1), POINTS);
    }

    static void broken(SeriesPress x) {
        due("37: the last is full", x.seals(0), 200);
        x.damage(0, 0, 0, 255);
        due("7: points without it", x.count(0, 1), POINTS - 737);
        due("35: it can be mended", x.mends(0, 0) > 0 ? 1 : 0, 1);
        due("36: its first byte", x.mend(0, 0, 0, 0), 0);
        due("36: is 0 again", x.mend(0, 0, 0, 1), 0);
        due("38: it goes", x.drops(0, 0), 15);
    }
}
