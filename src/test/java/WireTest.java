import java.util.List;

/** Promises 5 to 9. */
public final class WireTest {
    private static final Check CHECK = new Check("WireTest");

    public static void main(String[] args) {
        raws();
        alters();
        cuts();
        behindTheReader();
        CHECK.end();
    }

    private static void wireIs(LacedSound x, int... bytes) {
        CHECK.due("length()", x.length(), bytes.length);
        for (int k = 0; k < bytes.length; k++) {
            CHECK.due("wire(" + k + ")", x.wire(k), bytes[k]);
        }
    }

    private static void raws() {
        LacedSound x = new LacedSound();
        int[] wrong = {0, -1, 9, Integer.MIN_VALUE, Integer.MAX_VALUE};
        for (int n : wrong) {
            CHECK.due("raw with n " + n, x.raw(1, n), -1);
        }
        CHECK.due("raw of one", x.raw(-1, 1), 1);
        CHECK.due("raw of three", x.raw(0x7F800102L, 3), 4);
        wireIs(x, 255, 2, 1, 128);
        CHECK.due("raw of eight", x.raw(0x8000000000000001L, 8), 12);
        wireIs(x, 255, 2, 1, 128, 1, 0, 0, 0, 0, 0, 0, 128);
        CHECK.due("wire(-1)", x.wire(-1), -1);
        CHECK.due("wire(12)", x.wire(12), -1);
        CHECK.due("wire of the greatest place", x.wire(Integer.MAX_VALUE), -1);
        for (int k = 0; k < 123; k++) {
            x.raw(0, 8);
        }
        CHECK.due("raw beyond 1000", x.raw(0, 5), -1);
        CHECK.due("raw up to 1000", x.raw(0x09000000L, 4), 1000);
        CHECK.due("raw on a full wire", x.raw(0, 1), -1);
        CHECK.due("wire(999)", x.wire(999), 9);
        CHECK.due("wire(1000)", x.wire(1000), -1);
    }

    private static void alters() {
        LacedSound x = new LacedSound();
        x.raw(0x030201, 3);
        CHECK.due("alter(0, 255)", x.alter(0, 255), true);
        CHECK.due("alter(2, 1)", x.alter(2, 1), true);
        wireIs(x, 254, 2, 2);
        CHECK.due("alter(3, 1)", x.alter(3, 1), false);
        CHECK.due("alter(-1, 1)", x.alter(-1, 1), false);
        CHECK.due("alter(0, 0)", x.alter(0, 0), false);
        CHECK.due("alter(0, 256)", x.alter(0, 256), false);
        CHECK.due("alter(0, -1)", x.alter(0, -1), false);
        wireIs(x, 254, 2, 2);
    }

    private static void cuts() {
        LacedSound x = new LacedSound();
        x.raw(0x060504030201L, 6);
        CHECK.due("cut(1, 2)", x.cut(1, 2), true);
        wireIs(x, 1, 4, 5, 6);
        CHECK.due("cut(3, 2)", x.cut(3, 2), false);
        CHECK.due("cut(4, 1)", x.cut(4, 1), false);
        CHECK.due("cut(0, 0)", x.cut(0, 0), false);
        CHECK.due("cut(0, -1)", x.cut(0, -1), false);
        CHECK.due("cut(-1, 1)", x.cut(-1, 1), false);
        CHECK.due("cut of more than a number holds", x.cut(1, Integer.MAX_VALUE), false);
        CHECK.due("cut from the greatest place", x.cut(Integer.MAX_VALUE, Integer.MAX_VALUE), false);
        wireIs(x, 1, 4, 5, 6);
        CHECK.due("cut(3, 1)", x.cut(3, 1), true);
        CHECK.due("cut of all", x.cut(0, 3), true);
        wireIs(x);
        CHECK.due("raw behind it", x.raw(7, 1), 1);
        wireIs(x, 7);
    }

    /** What was read stays as it is. */
    private static void behindTheReader() {
        LacedSound x = new LacedSound();
        List<Integer> page = Pages.counting(2, 9, 0, 5, 3);
        Pages.put(x, page);
        x.raw(76, 1);
        CHECK.due("alter before the reader", x.alter(17, 0x20), true);
        CHECK.due("alter back", x.alter(17, 0x20), true);
        CHECK.due("next()", x.next(), 3);
        CHECK.due("alter of the last byte read", x.alter(17, 1), false);
        CHECK.due("cut of the last byte read", x.cut(17, 1), false);
        CHECK.due("cut that begins in what was read", x.cut(17, 2), false);
        CHECK.due("alter at the read place", x.alter(18, 1), true);
        CHECK.due("cut at the read place", x.cut(18, 1), true);
        CHECK.due("length()", x.length(), 18);
        CHECK.due("alter where nothing is", x.alter(18, 1), false);
        CHECK.due("octet(2)", x.octet(2), 3);
    }
}
