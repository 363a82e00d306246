import java.util.List;
import java.util.function.Consumer;

/** The boundaries of promises 5 to 9 and of the term WIRE, sentence by sentence. */
public final class WireEdgesTest {
    private static final Check CHECK = new Check("WireEdgesTest");
    private static final int LEAST = Integer.MIN_VALUE;
    private static final int MOST = Integer.MAX_VALUE;

    public static void main(String[] args) {
        everyByte();
        thousandBytes();
        readPlaceAtFirst();
        rawAppends();
        rawRefusesCounts();
        rawRefusesALongWire();
        altersEveryBit();
        alterRefusesBelowTheReadPlace();
        alterRefusesWhereNoByteIs();
        alterRefusesMasks();
        cutsAnywhere();
        cutRefusesBelowTheReadPlace();
        cutRefusesCounts();
        cutRefusesMoreThanThereIs();
        readPlaceStays();
        wireOutside();
        lengths();
        anyReason();
        CHECK.end();
    }

    private static void wireIs(String what, LacedSound x, int... bytes) {
        CHECK.due(what + ": length()", x.length(), bytes.length);
        for (int k = 0; k < bytes.length; k++) {
            CHECK.due(what + ": wire(" + k + ")", x.wire(k), bytes[k]);
        }
        CHECK.due(what + ": wire behind the last", x.wire(bytes.length), -1);
    }

    /** Ten bytes, none of them read. */
    private static void ten(LacedSound x) {
        x.raw(0x0807060504030201L, 8);
        x.raw(0x0A09, 2);
    }

    /** A page of 16 bytes that is read, and three bytes that are OPEN behind it. */
    private static void readTo16(LacedSound x) {
        Pages.put(x, Pages.counting(Pages.FIRST, 9, 4, 5, 1));
        x.raw(0x4C614CL, 3);
        CHECK.due("next()", x.next(), 3);
        CHECK.due("next() at an OPEN place", x.next(), 0);
    }

    /** Five bytes that were skipped, and the beginning of a page. */
    private static void skippedTo5(LacedSound x) {
        x.raw(0, 5);
        x.raw(0x614CL, 2);
        CHECK.due("next()", x.next(), 1);
    }

    private static void everyByte() {
        CHECK.sentence("A byte is 0 .. 255.");
        LacedSound x = new LacedSound();
        for (int octet = 0; octet < 256; octet++) {
            CHECK.due("raw", x.raw(octet - 256 * (octet % 3), 1), octet + 1);
        }
        for (int octet = 0; octet < 256; octet++) {
            CHECK.due("wire(" + octet + ")", x.wire(octet), octet);
        }
    }

    private static void thousandBytes() {
        CHECK.sentence("The WIRE is a list of at most 1000 bytes at places 0, 1, ..");
        List<Consumer<LacedSound>> ways = List.of(x -> x.raw(0xFF, 1), x -> x.flush(1, false), x -> x.send(2, 6));
        int[] sizes = {1, 14, 20};
        for (int k = 0; k < sizes.length; k++) {
            LacedSound x = new LacedSound();
            for (int segment = 0; segment < 5; segment++) {
                x.send(2, segment);
            }
            Talk.fillWire(x, 1000 - sizes[k]);
            CHECK.due("wire(999) ahead of it", x.wire(999), -1);
            ways.get(k).accept(x);
            CHECK.due("length() with " + sizes[k] + " bytes more", x.length(), 1000);
            CHECK.due("wire(999)", x.wire(999) >= 0, true);
            CHECK.due("wire(1000)", x.wire(1000), -1);
            for (Consumer<LacedSound> way : ways) {
                way.accept(x);
                CHECK.due("length() stays", x.length(), 1000);
            }
        }
    }

    private static void readPlaceAtFirst() {
        CHECK.sentence("the READ PLACE, at first 0, is the place up to which the reader has gone.");
        LacedSound x = new LacedSound();
        x.raw(76, 1);
        CHECK.due("alter(0, 1)", x.alter(0, 1), true);
        CHECK.due("alter back", x.alter(0, 1), true);
        CHECK.due("next() at an OPEN place", x.next(), 0);
        CHECK.due("cut(0, 1) when nothing was read", x.cut(0, 1), true);
    }

    private static void rawAppends() {
        CHECK.sentence("Appends the n lowest bytes of a number, the lowest first, to the wire; answers its length.");
        int[] due = {0xF1, 0xF2, 0xF3, 0xF4, 0xF5, 0xF6, 0xF7, 0xF8};
        for (int n = 1; n <= 8; n++) {
            LacedSound x = new LacedSound();
            CHECK.due("raw of " + n, x.raw(0xF8F7F6F5F4F3F2F1L, n), n);
            wireIs("raw of " + n, x, java.util.Arrays.copyOf(due, n));
        }
        LacedSound x = new LacedSound();
        x.raw(Long.MIN_VALUE, 8);
        x.raw(-1, 2);
        wireIs("negative numbers", x, 0, 0, 0, 0, 0, 0, 0, 128, 255, 255);
    }

    private static void rawRefusesCounts() {
        CHECK.sentence("Refused, answering NONE, when n is not 1 .. 8");
        for (int n : new int[] {0, -1, 9, 256, LEAST, MOST}) {
            Twins.refused(CHECK, "raw with n " + n, WireEdgesTest::ten, x -> x.raw(-1, n), -1);
        }
    }

    private static void rawRefusesALongWire() {
        CHECK.sentence("or the wire would be longer than 1000.");
        for (int n = 1; n <= 8; n++) {
            int size = n;
            LacedSound x = new LacedSound();
            Talk.fillWire(x, 1000 - size);
            CHECK.due("raw of " + size + " up to 1000", x.raw(-1, size), 1000);
            CHECK.due("its last byte", x.wire(999), 255);
            CHECK.due("behind it", x.wire(1000), -1);
            CHECK.due("raw on a full wire", x.raw(-1, 1), -1);
            Twins.refused(CHECK, "raw of " + size + " up to 1001", y -> Talk.fillWire(y, 1001 - size), y -> y.raw(-1, size), -1);
        }
    }

    private static void altersEveryBit() {
        CHECK.sentence("The byte of the wire at a place is xored with mask; answers true.");
        for (int mask : new int[] {1, 2, 127, 128, 254, 255}) {
            LacedSound x = new LacedSound();
            x.raw(0x00FFAA, 3);
            for (int place = 0; place < 3; place++) {
                CHECK.due("alter(" + place + ", " + mask + ")", x.alter(place, mask), true);
            }
            wireIs("mask " + mask, x, 0xAA ^ mask, 0xFF ^ mask, mask);
        }
    }

    private static int alter(LacedSound x, int place, int mask) {
        return x.alter(place, mask) ? 1 : 0;
    }

    private static void alterRefusesBelowTheReadPlace() {
        CHECK.sentence("Refused, answering false, when the place is below the read place");
        for (int place : new int[] {0, 14, 15}) {
            Twins.refused(CHECK, "alter at " + place, WireEdgesTest::readTo16, x -> alter(x, place, 1), 0);
        }
        Twins.refused(CHECK, "alter of the last byte skipped", WireEdgesTest::skippedTo5, x -> alter(x, 4, 1), 0);
        LacedSound x = new LacedSound();
        readTo16(x);
        CHECK.due("alter at the read place", x.alter(16, 1), true);
        CHECK.due("it is BAD now", x.next(), 1);
        CHECK.due("and was skipped alone", x.amount(), 2);
        LacedSound y = new LacedSound();
        skippedTo5(y);
        CHECK.due("alter at the read place", y.alter(5, 1), true);
        CHECK.due("wire(5)", y.wire(5), 77);
    }

    private static void alterRefusesWhereNoByteIs() {
        CHECK.sentence("or there is no byte there");
        for (int place : new int[] {-1, 10, 11, 999, 1000, LEAST, MOST}) {
            Twins.refused(CHECK, "alter at " + place, WireEdgesTest::ten, x -> alter(x, place, 1), 0);
        }
        CHECK.due("alter on an empty wire", new LacedSound().alter(0, 1), false);
        LacedSound x = new LacedSound();
        ten(x);
        CHECK.due("alter of the last byte", x.alter(9, 1), true);
        CHECK.due("alter of the first byte", x.alter(0, 1), true);
        LacedSound full = new LacedSound();
        Talk.fillWire(full, 1000);
        CHECK.due("alter of byte 999", full.alter(999, 255), true);
        CHECK.due("alter of byte 1000", full.alter(1000, 255), false);
        LacedSound read = new LacedSound();
        readTo16(read);
        read.cut(16, 3);
        CHECK.due("alter at the read place, which is the end", read.alter(16, 1), false);
    }

    private static void alterRefusesMasks() {
        CHECK.sentence("or mask is not 1 .. 255.");
        for (int mask : new int[] {0, -1, 256, 257, 511, LEAST, MOST}) {
            Twins.refused(CHECK, "alter with " + mask, WireEdgesTest::ten, x -> alter(x, 3, mask), 0);
        }
    }

    private static void cutsAnywhere() {
        CHECK.sentence("Takes n bytes out of the wire from a place on (those behind them move down); answers true.");
        LacedSound x = new LacedSound();
        ten(x);
        CHECK.due("cut of the first", x.cut(0, 1), true);
        wireIs("without the first", x, 2, 3, 4, 5, 6, 7, 8, 9, 10);
        CHECK.due("cut of the last", x.cut(8, 1), true);
        wireIs("without the last", x, 2, 3, 4, 5, 6, 7, 8, 9);
        CHECK.due("cut of some in the middle", x.cut(2, 3), true);
        wireIs("without the middle", x, 2, 3, 7, 8, 9);
        CHECK.due("cut of all", x.cut(0, 5), true);
        wireIs("empty", x);
        CHECK.due("raw then", x.raw(5, 1), 1);
        LacedSound full = new LacedSound();
        Talk.fillWire(full, 999);
        full.raw(9, 1);
        CHECK.due("cut on a full wire", full.cut(500, 1), true);
        CHECK.due("the last byte moved down", full.wire(998), 9);
        CHECK.due("there is room for one", full.raw(8, 1), 1000);
        CHECK.due("and for no more", full.raw(8, 1), -1);
        CHECK.due("cut of all 1000", full.cut(0, 1000), true);
        wireIs("empty", full);
    }

    private static int cut(LacedSound x, int place, int n) {
        return x.cut(place, n) ? 1 : 0;
    }

    private static void cutRefusesBelowTheReadPlace() {
        CHECK.sentence("Refused, answering false, when the place is below the read place");
        for (int place : new int[] {-1, 0, 15, LEAST}) {
            Twins.refused(CHECK, "cut at " + place, WireEdgesTest::readTo16, x -> cut(x, place, 1), 0);
        }
        Twins.refused(CHECK, "cut from behind the read place on", WireEdgesTest::readTo16, x -> cut(x, 15, 2), 0);
        Twins.refused(CHECK, "cut of the last byte skipped", WireEdgesTest::skippedTo5, x -> cut(x, 4, 1), 0);
        LacedSound x = new LacedSound();
        readTo16(x);
        CHECK.due("cut at the read place", x.cut(16, 1), true);
        CHECK.due("length()", x.length(), 18);
        CHECK.due("what stands there now is BAD", x.next(), 1);
        LacedSound y = new LacedSound();
        ten(y);
        CHECK.due("cut at -1", y.cut(-1, 1), false);
        CHECK.due("cut at 0", y.cut(0, 1), true);
    }

    private static void cutRefusesCounts() {
        CHECK.sentence("n is below 1");
        for (int n : new int[] {0, -1, -8, LEAST}) {
            Twins.refused(CHECK, "cut of " + n, WireEdgesTest::ten, x -> cut(x, 3, n), 0);
            Twins.refused(CHECK, "cut of " + n + " at the end", WireEdgesTest::ten, x -> cut(x, 10, n), 0);
        }
        LacedSound x = new LacedSound();
        ten(x);
        CHECK.due("cut of 1", x.cut(3, 1), true);
        CHECK.due("length()", x.length(), 9);
    }

    private static void cutRefusesMoreThanThereIs() {
        CHECK.sentence("or there are not n bytes from that place on.");
        int[][] cuts = {{0, 11}, {9, 2}, {10, 1}, {11, 1}, {5, 6}, {1, MOST}, {MOST, 1}, {MOST, MOST}, {0, 1000}, {1000, 1}};
        for (int[] c : cuts) {
            Twins.refused(CHECK, "cut(" + c[0] + ", " + c[1] + ")", WireEdgesTest::ten, x -> cut(x, c[0], c[1]), 0);
        }
        for (int place = 0; place < 10; place++) {
            LacedSound x = new LacedSound();
            ten(x);
            CHECK.due("cut of one too many from " + place, x.cut(place, 11 - place), false);
            CHECK.due("cut of all from " + place, x.cut(place, 10 - place), true);
            CHECK.due("length()", x.length(), place);
        }
        CHECK.due("cut on an empty wire", new LacedSound().cut(0, 1), false);
    }

    private static void readPlaceStays() {
        CHECK.sentence("is the place up to which the reader has gone.");
        List<Consumer<LacedSound>> changes = List.of(x -> x.raw(1, 1), x -> x.alter(16, 1), x -> x.cut(16, 3));
        for (Consumer<LacedSound> change : changes) {
            LacedSound x = new LacedSound();
            readTo16(x);
            change.accept(x);
            CHECK.due("below the read place", x.alter(15, 1), false);
            x.raw(0, 1);
            CHECK.due("at the read place", x.alter(16, 1), true);
        }
        // A page is read as a whole, however many of its events have been given.
        LacedSound x = new LacedSound();
        Pages.put(x, Pages.counting(Pages.FIRST | Pages.LAST, 9, 4, 5, 1, 1, 1));
        CHECK.due("next()", x.next(), 3);
        CHECK.due("alter of the last byte of a page that was read", x.alter(19, 1), false);
        CHECK.due("cut of the last byte of a page that was read", x.cut(19, 1), false);
    }

    private static void wireOutside() {
        CHECK.sentence("The byte of the wire at a place; NONE when there is none.");
        LacedSound x = new LacedSound();
        for (int place : new int[] {-1, 0, 1, 999, 1000, LEAST, MOST}) {
            CHECK.due("wire(" + place + ") of an empty wire", x.wire(place), -1);
        }
        ten(x);
        CHECK.due("wire(0)", x.wire(0), 1);
        CHECK.due("wire(9)", x.wire(9), 10);
        for (int place : new int[] {-1, 10, 999, 1000, LEAST, MOST}) {
            CHECK.due("wire(" + place + ") of ten", x.wire(place), -1);
        }
        x.cut(9, 1);
        CHECK.due("wire(9) when it was cut", x.wire(9), -1);
        LacedSound y = new LacedSound();
        readTo16(y);
        CHECK.due("a byte that was read", y.wire(15), 1);
    }

    private static void lengths() {
        CHECK.sentence("The length of the wire.");
        LacedSound x = new LacedSound();
        CHECK.due("length() of an empty wire", x.length(), 0);
        Talk.fillWire(x, 1000);
        CHECK.due("length() of a full wire", x.length(), 1000);
        x.raw(0, 1);
        x.flush(0, false);
        CHECK.due("length() with refused calls", x.length(), 1000);
        CHECK.due("next()", x.next(), 1);
        CHECK.due("length() when all was read", x.length(), 1000);
        CHECK.due("cut of what was read", x.cut(999, 1), false);
    }

    private static void anyReason() {
        CHECK.sentence("Every method that can refuse does so if any of its reasons holds.");
        LacedSound x = new LacedSound();
        readTo16(x);
        CHECK.due("alter below the read place with no mask", x.alter(3, 0), false);
        CHECK.due("alter behind the end with too great a mask", x.alter(19, 256), false);
        CHECK.due("cut below the read place of none", x.cut(3, 0), false);
        CHECK.due("cut below the read place of too many", x.cut(3, 17), false);
        Talk.fillWire(x, 1000);
        CHECK.due("raw of nine on a full wire", x.raw(1, 9), -1);
        CHECK.due("raw of none on a full wire", x.raw(1, 0), -1);
        CHECK.due("length()", x.length(), 1000);
    }
}
