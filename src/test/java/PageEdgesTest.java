import java.util.ArrayList;
import java.util.List;

/** The boundaries of a page and of the places that are BAD, OPEN or GOOD, sentence by sentence. */
public final class PageEdgesTest {
    private static final Check CHECK = new Check("PageEdgesTest");
    // Checks that another program worked out from the document.
    private static final int CHECK_OF_EMPTY_PAGE = 0x0702D698;
    private static final int CHECK_OF_LAST_PAGE = 0x171941BD;

    public static void main(String[] args) {
        sign();
        flags();
        serials();
        times();
        counts();
        lacings();
        greatestPage();
        checkOfKnownPages();
        checkBytes();
        lowestByteOfCheckFirst();
        everyBit();
        openUntilTheLastByte();
        badAtOnce();
        behindTheLastByte();
        checkWaitsForTheLastByte();
        openHoldsUp();
        nextPlaceThatIsNotBad();
        skipToTheEnd();
        CHECK.end();
    }

    private static LacedSound on(List<Integer> bytes) {
        LacedSound x = new LacedSound();
        Pages.put(x, bytes);
        return x;
    }

    private static void skipped(String what, LacedSound x, int amount) {
        CHECK.due(what + ": next()", x.next(), 1);
        CHECK.due(what + ": amount()", x.amount(), amount);
        CHECK.due(what + ": serial()", x.serial(), -1);
        CHECK.due(what + ": time()", x.time(), -1);
    }

    /** The byte at a place is wrong: the place is BAD as soon as it is there, and not before. */
    private static void bad(String what, List<Integer> page, int at, int wrong) {
        List<Integer> damaged = new ArrayList<>(page);
        damaged.set(at, wrong);
        Pages.seal(damaged);
        LacedSound x = on(damaged.subList(0, at));
        CHECK.due(what + ": OPEN ahead of it", x.next(), 0);
        x.raw(wrong, 1);
        skipped(what, x, at + 1);
        CHECK.due(what + ": the place behind the last byte", x.next(), 0);
        LacedSound whole = on(damaged);
        CHECK.due(what + " in a whole page", whole.next(), 1);
    }

    private static void sign() {
        CHECK.sentence("A PAGE is made of: the four bytes 76, 97, 76, 83");
        int[] due = {76, 97, 76, 83};
        List<Integer> page = Pages.counting(Pages.FIRST, 3, 0, 9, 2);
        CHECK.due("a page with the right ones", on(page).next(), 3);
        for (int k = 0; k < 4; k++) {
            for (int wrong : new int[] {due[k] - 1, due[k] + 1, due[k] ^ 128, 0, 255}) {
                bad("byte " + k + " is " + wrong, page, k, wrong);
            }
        }
    }

    private static void flags() {
        CHECK.sentence("FLAGS, 0 .. 7 (1 CONTINUED, 2 FIRST, 4 LAST)");
        for (int flags = 0; flags <= 7; flags++) {
            LacedSound x = on(Pages.counting(flags, 3, 0, 9, 2, 4));
            boolean continued = flags % 2 == 1;
            CHECK.due("FLAGS " + flags + ": next()", x.next(), 3);
            CHECK.due("FLAGS " + flags + ": amount()", x.amount(), continued ? 4 : 2);
            CHECK.due("FLAGS " + flags + ": pieces()", x.pieces(), continued ? 1 : 0);
            CHECK.due("FLAGS " + flags + ": the next", x.next(), continued ? flags >= 4 ? 4 : 0 : 3);
        }
        List<Integer> page = Pages.counting(Pages.FIRST, 3, 0, 9, 2);
        for (int wrong : new int[] {8, 9, 16, 32, 64, 128, 255}) {
            bad("FLAGS " + wrong, page, 4, wrong);
        }
    }

    private static void serials() {
        CHECK.sentence("SERIAL; NUMBER;");
        for (int byteOf : new int[] {0, 1, 127, 128, 255}) {
            LacedSound x = on(Pages.counting(0, byteOf, 255 - byteOf, 9, 2));
            CHECK.due("SERIAL " + byteOf, x.next(), 3);
            CHECK.due("serial()", x.serial(), byteOf);
        }
    }

    private static void times() {
        CHECK.sentence("TIME, two bytes, the low one first (65535: none)");
        for (int time : new int[] {0, 1, 255, 256, 32767, 32768, 65534, 65535}) {
            LacedSound x = on(Pages.counting(Pages.FIRST, 3, 0, time, 2));
            CHECK.due("next()", x.next(), 3);
            CHECK.due("TIME " + time, x.time(), time);
        }
    }

    private static void counts() {
        CHECK.sentence("the count n of its segments, 0 .. 6");
        for (int n = 0; n <= 6; n++) {
            Integer[] ones = new Integer[n];
            java.util.Arrays.fill(ones, 1);
            LacedSound x = on(Pages.counting(Pages.LAST, 3, 0, 9, ones));
            for (int k = 0; k < n; k++) {
                CHECK.due("packet " + k + " of " + n, x.next(), 3);
                CHECK.due("its byte", x.octet(0), k + 1);
            }
            CHECK.due("END behind " + n, x.next(), 4);
        }
        List<Integer> page = Pages.counting(Pages.FIRST, 3, 0, 9, 1, 1, 1, 1, 1, 1);
        for (int wrong : new int[] {7, 8, 14, 128, 255}) {
            bad("the count " + wrong, page, 13, wrong);
        }
        bad("seven segments", Pages.counting(Pages.FIRST, 3, 0, 9, 1, 1, 1, 1, 1, 1, 1), 13, 7);
    }

    private static void lacings() {
        CHECK.sentence("n LACING values, each 0 .. 15");
        for (int k = 0; k < 6; k++) {
            Integer[] lacings = {1, 1, 1, 1, 1, 1};
            for (int lacing = 0; lacing <= 15; lacing += lacing == 0 ? 14 : 1) {
                lacings[k] = lacing;
                LacedSound x = on(Pages.counting(Pages.LAST, 3, 0, 9, lacings));
                int event = x.next();
                int packets = 0;
                for (; event == 3; event = x.next()) {
                    packets++;
                }
                CHECK.due("packets with lacing value " + k + " of " + lacing, packets, lacing == 15 ? 5 : 6);
                CHECK.due("END with lacing value " + k + " of " + lacing, event, 4);
            }
            for (int wrong : new int[] {16, 17, 128, 255}) {
                bad("lacing value " + k + " is " + wrong, Pages.counting(Pages.FIRST, 3, 0, 9, 1, 1, 1, 1, 1, 1), 14 + k, wrong);
            }
        }
    }

    private static void greatestPage() {
        CHECK.sentence("each of as many bytes as its lacing value says.");
        List<Integer> page = Pages.counting(Pages.FIRST | Pages.LAST, 3, 0, 9, 15, 15, 15, 15, 15, 14);
        CHECK.due("its bytes", page.size(), 109);
        LacedSound x = on(page.subList(0, 108));
        CHECK.due("without its last byte", x.next(), 0);
        x.raw(89, 1);
        CHECK.due("with it", x.next(), 3);
        CHECK.due("amount()", x.amount(), 89);
        CHECK.due("octet(88)", x.octet(88), 89);
        CHECK.due("octet(89)", x.octet(89), -1);
    }

    private static void checkOfKnownPages() {
        CHECK.sentence("CHECK is a register of 32 bits, 0 at first, after all bytes of the page (with 0 for each of the four bytes of CHECK) have gone through it");
        LacedSound x = new LacedSound();
        x.flush(0, false);
        x.add(0x030201, 3);
        x.send(2, 515);
        x.flush(2, true);
        for (int k = 0; k < 4; k++) {
            CHECK.due("CHECK of an empty page, byte " + k, x.wire(9 + k), CHECK_OF_EMPTY_PAGE >>> (8 * k) & 255);
            CHECK.due("CHECK of a LAST page, byte " + k, x.wire(23 + k), CHECK_OF_LAST_PAGE >>> (8 * k) & 255);
        }
    }

    private static void checkBytes() {
        CHECK.sentence("all bytes of the page are on the wire and CHECK is wrong.");
        List<Integer> page = Pages.counting(Pages.FIRST, 3, 0, 9, 2);
        for (int k = 9; k < 13; k++) {
            for (int bit = 0; bit < 8; bit++) {
                LacedSound x = on(page);
                x.alter(k, 1 << bit);
                skipped("bit " + bit + " of byte " + k + " of CHECK", x, page.size());
            }
        }
    }

    private static void lowestByteOfCheckFirst() {
        CHECK.sentence("CHECK, four bytes, the lowest first");
        List<Integer> page = Pages.counting(Pages.FIRST, 3, 0, 9, 2);
        List<Integer> reversed = new ArrayList<>(page);
        for (int k = 0; k < 4; k++) {
            reversed.set(9 + k, page.get(12 - k));
        }
        CHECK.due("the lowest byte of CHECK first", on(page).next(), 3);
        skipped("the highest byte of CHECK first", on(reversed), page.size());
    }

    private static void everyBit() {
        CHECK.sentence("all bytes of the page are on the wire and CHECK is wrong.");
        List<Integer> page = Pages.counting(Pages.FIRST, 3, 17, 900, 2, 0, 15);
        for (int k = 0; k < page.size(); k++) {
            for (int bit = 0; bit < 8; bit++) {
                LacedSound x = on(page);
                x.alter(k, 1 << bit);
                // A count or a lacing value that has grown leaves the page without some bytes.
                boolean grown = k >= 13 && k < 17 && (page.get(k) >> bit & 1) == 0;
                boolean open = grown && (k == 13 ? bit < 3 && (page.get(k) | 1 << bit) <= 6 : bit < 4);
                CHECK.due("bit " + bit + " of byte " + k, x.next(), open ? 0 : 1);
            }
        }
    }

    private static void openUntilTheLastByte() {
        CHECK.sentence("it is OPEN when not all bytes of the page are on the wire yet");
        for (Integer[] lacings : new Integer[][] {{}, {0}, {1}, {15, 15, 15, 15, 15, 0}, {0, 0, 0, 0, 0, 0}}) {
            List<Integer> page = Pages.counting(Pages.LAST, 3, 0, 9, lacings);
            LacedSound x = new LacedSound();
            for (int k = 0; k < page.size(); k++) {
                CHECK.due("next() with " + k + " bytes of " + page.size(), x.next(), 0);
                CHECK.due("amount() with no event", x.amount(), -1);
                x.raw(page.get(k), 1);
            }
            CHECK.due("next() with all " + page.size(), x.next(), lacings.length == 0 ? 4 : 3);
        }
    }

    private static void badAtOnce() {
        CHECK.sentence("one of the four first bytes, FLAGS, the count or a lacing value is on the wire and is not as said");
        // All of it is as said but the last lacing value, and none of the segments is there.
        List<Integer> page = Pages.counting(Pages.FIRST, 3, 0, 9, 15, 15, 15, 15, 15, 15);
        List<Integer> head = new ArrayList<>(page.subList(0, 20));
        CHECK.due("all lacing values as said", on(head).next(), 0);
        head.set(19, 16);
        skipped("the last one not as said", on(head), 20);
        // SERIAL, NUMBER, TIME and CHECK may be anything until the page is whole.
        for (int k = 5; k < 13; k++) {
            List<Integer> other = new ArrayList<>(page.subList(0, 20));
            other.set(k, other.get(k) ^ 255);
            CHECK.due("another byte " + k, on(other).next(), 0);
        }
    }

    private static void behindTheLastByte() {
        CHECK.sentence("(the place behind the last byte is OPEN)");
        LacedSound x = new LacedSound();
        CHECK.due("next() on an empty wire", x.next(), 0);
        Pages.put(x, Pages.counting(Pages.FIRST, 3, 0, 9));
        CHECK.due("next() behind a page without an event", x.next(), 0);
        x.raw(75, 1);
        skipped("a wrong byte", x, 1);
        CHECK.due("next() behind what was skipped", x.next(), 0);
        LacedSound full = new LacedSound();
        Talk.fillWire(full, 1000);
        skipped("a wire of 1000 wrong bytes", full, 1000);
        CHECK.due("next() behind 1000 bytes", full.next(), 0);
    }

    private static void checkWaitsForTheLastByte() {
        CHECK.sentence("or all bytes of the page are on the wire and CHECK is wrong.");
        List<Integer> page = Pages.counting(Pages.FIRST, 3, 0, 9, 3);
        page.set(9, page.get(9) ^ 1);
        LacedSound x = on(page.subList(0, page.size() - 1));
        CHECK.due("OPEN without the last byte", x.next(), 0);
        x.raw(3, 1);
        skipped("BAD with it", x, page.size());
    }

    private static void openHoldsUp() {
        CHECK.sentence("If it is not BAD, it is OPEN when not all bytes of the page are on the wire yet");
        // A head that asks for 10 bytes of segments, in which a whole page of 15 bytes begins.
        LacedSound x = on(Pages.counting(Pages.FIRST, 3, 0, 9, 10).subList(0, 15));
        List<Integer> inner = Pages.counting(Pages.FIRST, 4, 0, 8, 0);
        Pages.put(x, inner.subList(0, 9));
        CHECK.due("one byte short", x.next(), 0);
        Pages.put(x, inner.subList(9, 10));
        skipped("the outer page is whole and wrong", x, 15);
        CHECK.due("the inner one is OPEN", x.next(), 0);
        Pages.put(x, inner.subList(10, 15));
        CHECK.due("the inner one is GOOD", x.next(), 3);
        CHECK.due("serial()", x.serial(), 4);
    }

    private static void nextPlaceThatIsNotBad() {
        CHECK.sentence("if the read place is BAD, it goes on to the next place that is not BAD, and that is an event SKIPPED");
        // 76 alone at the end is OPEN; 76 with a wrong byte behind it is BAD.
        LacedSound x = on(List.of(1, 76, 76));
        skipped("up to an OPEN place", x, 2);
        CHECK.due("which stays OPEN", x.next(), 0);
        x.raw(98, 1);
        skipped("until it is BAD", x, 2);
        Pages.put(x, List.of(5));
        Pages.put(x, Pages.counting(Pages.FIRST | Pages.LAST, 3, 0, 9));
        skipped("up to a GOOD place", x, 1);
        CHECK.due("END", x.next(), 4);
        // The last byte that was read is no place to begin a page at, though 97, 76, 83 follow it.
        LacedSound y = on(Pages.of(Pages.FIRST, 3, 0, 9, List.of(1), List.of(76)));
        CHECK.due("a page that ends with 76", y.next(), 3);
        y.raw(0x534C61, 3);
        skipped("97, 76, 83 behind it", y, 3);
        // What is skipped in two calls is two events.
        x.raw(0, 3);
        skipped("three bytes", x, 3);
        x.raw(0, 2);
        skipped("two bytes more", x, 2);
    }

    private static void skipToTheEnd() {
        CHECK.sentence("Of the latest event: SKIPPED: how many places the read place went on.");
        for (int n : new int[] {1, 2, 13, 14, 999, 1000}) {
            LacedSound x = new LacedSound();
            Talk.fillWire(x, n);
            skipped(n + " bytes", x, n);
        }
        LacedSound x = new LacedSound();
        Talk.fillWire(x, 986);
        x.flush(0, true);
        skipped("986 bytes ahead of a page", x, 986);
        CHECK.due("the page at the end of a full wire", x.next(), 4);
    }
}
