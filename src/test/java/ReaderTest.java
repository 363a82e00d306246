import java.util.List;

/** Promises 10 to 15. */
public final class ReaderTest {
    private static final Check CHECK = new Check("ReaderTest");
    private static final int CONTINUED = Pages.CONTINUED;
    private static final int FIRST = Pages.FIRST;
    private static final int LAST = Pages.LAST;

    public static void main(String[] args) {
        openPlaces();
        badPlaces();
        badCheck();
        skips();
        packetsOfAPage();
        packetOverPages();
        longPacket();
        gaps();
        numbersWrap();
        firstAgain();
        notContinued();
        passedOver();
        continuedWithoutSegment();
        lastPage();
        strangers();
        inHand();
        laterCallsKeepEvents();
        CHECK.end();
    }

    /** The next event, with its amount, serial and time. */
    private static void event(LacedSound x, int kind, int amount, int serial, int time) {
        String told = "event " + kind + " of " + serial;
        CHECK.due(told + ": next()", x.next(), kind);
        CHECK.due(told + ": amount()", x.amount(), amount);
        CHECK.due(told + ": serial()", x.serial(), serial);
        CHECK.due(told + ": time()", x.time(), time);
    }

    private static void skipped(LacedSound x, int amount) {
        event(x, 1, amount, -1, -1);
    }

    private static void noMore(LacedSound x) {
        int amount = x.amount();
        CHECK.due("next() with nothing to come", x.next(), 0);
        CHECK.due("amount() stays", x.amount(), amount);
    }

    private static void pieces(LacedSound x, int due) {
        CHECK.due("pieces()", x.pieces(), due);
    }

    /** A page is OPEN until its last byte is there, and no byte on the way is taken for BAD. */
    private static void openPlaces() {
        LacedSound x = new LacedSound();
        List<Integer> page = Pages.counting(7, 255, 255, 65534, 0, 15, 2);
        for (int octet : page) {
            CHECK.due("next() at an OPEN place", x.next(), 0);
            x.raw(octet, 1);
        }
        event(x, 3, 17, 255, 65534);
        pieces(x, 1);
        event(x, 4, 1, 255, -1);
        noMore(x);
    }

    private static void badPlaces() {
        int[] places = {0, 1, 2, 3, 4, 13, 14, 15};
        int[] wrong = {75, 96, 77, 84, 8, 7, 16, 255};
        for (int k = 0; k < places.length; k++) {
            LacedSound x = new LacedSound();
            List<Integer> page = Pages.counting(FIRST, 1, 0, 0, 3, 4);
            page.set(places[k], wrong[k]);
            List<Integer> before = page.subList(0, places[k]);
            Pages.put(x, before);
            CHECK.due("OPEN ahead of the wrong byte " + places[k], x.next(), 0);
            x.raw(wrong[k], 1);
            skipped(x, places[k] + 1);
            noMore(x);
        }
        LacedSound x = new LacedSound();
        Pages.put(x, Pages.counting(LAST, 1, 0, 0, 0, 0, 0, 0, 0, 0));
        CHECK.due("six segments are good", x.next(), 3);
    }

    private static void badCheck() {
        List<Integer> page = Pages.counting(FIRST, 1, 0, 300, 3, 4);
        for (int k = 5; k < page.size(); k++) {
            if (k == 13 || k == 14 || k == 15) {
                continue;
            }
            LacedSound x = new LacedSound();
            Pages.put(x, page);
            x.alter(k, 128);
            skipped(x, page.size());
            noMore(x);
        }
    }

    private static void skips() {
        LacedSound x = new LacedSound();
        x.raw(0x614C61L, 3);
        skipped(x, 1);
        CHECK.due("OPEN at a sign that begins", x.next(), 0);
        Pages.put(x, Pages.counting(FIRST, 1, 0, 7, 2));
        skipped(x, 2);
        event(x, 3, 2, 1, 7);
        Pages.put(x, List.of(1, 2, 3));
        skipped(x, 3);
        Pages.put(x, List.of(4));
        skipped(x, 1);
        // A page within a damaged one is found.
        List<Integer> inner = Pages.counting(0, 1, 1, 8, 0);
        List<Integer> outer = Pages.of(0, 1, 1, 9, List.of(15, 3), List.of(
            0, 0, 0, 0, 0, 0, 0, 0, 0, 0, 0, 0, 0, 0, 0, 0, 0, 0));
        for (int k = 0; k < inner.size(); k++) {
            outer.set(17 + k, inner.get(k));
        }
        Pages.put(x, outer);
        skipped(x, 17);
        event(x, 3, 0, 1, 8);
        skipped(x, 2);
        noMore(x);
    }

    private static void packetsOfAPage() {
        LacedSound x = new LacedSound();
        Pages.put(x, Pages.counting(FIRST | LAST, 7, 0, 500, 1, 0, 15, 2, 15, 0));
        event(x, 3, 1, 7, 65535);
        CHECK.due("octet(0)", x.octet(0), 1);
        event(x, 3, 0, 7, 65535);
        CHECK.due("octet(0) of an empty packet", x.octet(0), -1);
        event(x, 3, 17, 7, 65535);
        CHECK.due("octet(0)", x.octet(0), 2);
        CHECK.due("octet(16)", x.octet(16), 18);
        event(x, 3, 15, 7, 500);
        CHECK.due("octet(14)", x.octet(14), 33);
        CHECK.due("octet(15)", x.octet(15), -1);
        CHECK.due("octet(-1)", x.octet(-1), -1);
        event(x, 4, 4, 7, -1);
        noMore(x);
        pieces(x, 0);
    }

    /** Two streams, each with a packet that goes on over pages of the other. */
    private static void packetOverPages() {
        LacedSound x = new LacedSound();
        Pages.put(x, Pages.counting(FIRST, 1, 0, 65535, 15));
        Pages.put(x, Pages.counting(FIRST, 2, 0, 65535, 15, 15));
        Pages.put(x, Pages.counting(CONTINUED, 1, 1, 21, 3, 15));
        Pages.put(x, Pages.counting(CONTINUED, 2, 1, 22, 1));
        Pages.put(x, Pages.counting(CONTINUED | LAST, 1, 2, 23, 2));
        event(x, 3, 18, 1, 21);
        CHECK.due("octet(14)", x.octet(14), 15);
        CHECK.due("octet(15)", x.octet(15), 1);
        CHECK.due("octet(17)", x.octet(17), 3);
        event(x, 3, 31, 2, 22);
        CHECK.due("octet(30)", x.octet(30), 1);
        event(x, 3, 17, 1, 23);
        CHECK.due("octet(0)", x.octet(0), 4);
        event(x, 4, 2, 1, -1);
        pieces(x, 0);
    }

    /** Nine full pages: a packet of far more than 64 bytes. */
    private static void longPacket() {
        LacedSound x = new LacedSound();
        for (int k = 0; k < 8; k++) {
            Pages.put(x, Pages.counting(k == 0 ? FIRST : CONTINUED, 0, k, 65535, 15, 15, 15, 15, 15, 15));
        }
        Pages.put(x, Pages.counting(CONTINUED, 0, 8, 3, 15, 15, 15, 15, 15, 14));
        event(x, 3, 809, 0, 3);
        CHECK.due("octet(0)", x.octet(0), 1);
        CHECK.due("octet(719)", x.octet(719), 90);
        CHECK.due("octet(808)", x.octet(808), 89);
        CHECK.due("octet(809)", x.octet(809), -1);
        CHECK.due("take() of a FORMAT with a above b", x.take(), 0);
    }

    private static void gaps() {
        LacedSound x = new LacedSound();
        Pages.put(x, Pages.counting(0, 4, 10, 1, 1));
        event(x, 3, 1, 4, 1);
        Pages.put(x, Pages.counting(0, 4, 13, 2, 15));
        event(x, 2, 2, 4, -1);
        pieces(x, 0);
        Pages.put(x, Pages.counting(CONTINUED, 4, 13, 3, 2, 4));
        CHECK.due("the packet before is in hand", x.octet(0), 1);
        event(x, 2, 255, 4, -1);
        pieces(x, 2);
        event(x, 3, 4, 4, 3);
        CHECK.due("octet(0)", x.octet(0), 3);
        Pages.put(x, Pages.counting(LAST, 4, 0, 4));
        event(x, 2, 242, 4, -1);
        event(x, 4, 2, 4, -1);
        pieces(x, 2);
    }

    private static void numbersWrap() {
        LacedSound x = new LacedSound();
        Pages.put(x, Pages.counting(0, 4, 255, 1));
        Pages.put(x, Pages.counting(0, 4, 0, 1));
        Pages.put(x, Pages.counting(0, 4, 1, 1));
        noMore(x);
        Pages.put(x, Pages.counting(0, 4, 1, 1));
        event(x, 2, 255, 4, -1);
        noMore(x);
    }

    /** FIRST on a stream that is known: no GAP, the count begins again, CONTINUED finds nothing. */
    private static void firstAgain() {
        LacedSound x = new LacedSound();
        Pages.put(x, Pages.counting(FIRST, 4, 0, 1, 1, 1, 15));
        CHECK.due("next()", x.next(), 3);
        CHECK.due("next()", x.next(), 3);
        Pages.put(x, Pages.counting(FIRST | CONTINUED, 4, 90, 1, 2, 3));
        event(x, 3, 3, 4, 1);
        pieces(x, 2);
        Pages.put(x, Pages.counting(LAST, 4, 91, 1));
        event(x, 4, 1, 4, -1);
        pieces(x, 2);
    }

    private static void notContinued() {
        LacedSound x = new LacedSound();
        Pages.put(x, Pages.counting(FIRST, 4, 0, 1, 15));
        Pages.put(x, Pages.counting(0, 4, 1, 9, 2));
        event(x, 3, 2, 4, 9);
        pieces(x, 1);
        Pages.put(x, Pages.counting(0, 4, 2, 1, 15));
        Pages.put(x, Pages.counting(0, 4, 3, 1));
        Pages.put(x, Pages.counting(CONTINUED, 4, 4, 1));
        noMore(x);
        pieces(x, 2);
    }

    private static void passedOver() {
        LacedSound x = new LacedSound();
        Pages.put(x, Pages.counting(CONTINUED, 4, 0, 50, 15, 15, 3, 15));
        Pages.put(x, Pages.counting(CONTINUED, 4, 1, 60, 4));
        event(x, 3, 19, 4, 60);
        pieces(x, 1);
        CHECK.due("octet(0)", x.octet(0), 34);
        // All segments are passed over, and so is what goes on with them.
        Pages.put(x, Pages.counting(CONTINUED, 5, 0, 50, 15, 15));
        Pages.put(x, Pages.counting(CONTINUED, 5, 1, 50, 15));
        Pages.put(x, Pages.counting(CONTINUED, 5, 2, 51, 7));
        noMore(x);
        pieces(x, 4);
        // The last segment below 15 is passed over: no packet has the page's time.
        Pages.put(x, Pages.counting(CONTINUED | LAST, 6, 0, 50, 0, 15));
        event(x, 4, 0, 6, -1);
        pieces(x, 6);
    }

    private static void continuedWithoutSegment() {
        LacedSound x = new LacedSound();
        Pages.put(x, Pages.counting(CONTINUED, 4, 0, 1));
        Pages.put(x, Pages.counting(0, 4, 1, 1, 15));
        Pages.put(x, Pages.counting(CONTINUED, 4, 2, 1));
        Pages.put(x, Pages.counting(CONTINUED, 4, 3, 8, 1));
        event(x, 3, 16, 4, 8);
        pieces(x, 0);
    }

    private static void lastPage() {
        LacedSound x = new LacedSound();
        Pages.put(x, Pages.counting(LAST, 4, 0, 30, 2, 15));
        CHECK.due("next()", x.next(), 3);
        pieces(x, 1);
        CHECK.due("the time of a packet ahead of an unfinished one", x.time(), 30);
        event(x, 4, 1, 4, -1);
        // It is not known any more: no GAP, and it counts anew.
        Pages.put(x, Pages.counting(CONTINUED | LAST, 4, 9, 30, 2, 1));
        event(x, 3, 1, 4, 30);
        event(x, 4, 1, 4, -1);
        pieces(x, 2);
    }

    private static void strangers() {
        LacedSound x = new LacedSound();
        for (int serial = 10; serial < 13; serial++) {
            Pages.put(x, Pages.counting(FIRST, serial, 0, 1));
        }
        Pages.put(x, Pages.counting(CONTINUED | LAST, 13, 0, 1, 3, 4));
        event(x, 5, 23, 13, -1);
        noMore(x);
        pieces(x, 0);
        Pages.put(x, Pages.counting(LAST, 11, 1, 1));
        event(x, 4, 0, 11, -1);
        Pages.put(x, Pages.counting(0, 13, 9, 2, 3));
        event(x, 3, 3, 13, 2);
        Pages.put(x, Pages.counting(0, 11, 2, 2, 3));
        event(x, 5, 18, 11, -1);
        Pages.put(x, Pages.counting(0, 10, 1, 6, 1));
        event(x, 3, 1, 10, 6);
        Pages.put(x, Pages.counting(0, 12, 2, 6, 1));
        event(x, 2, 1, 12, -1);
        event(x, 3, 1, 12, 6);
    }

    private static void inHand() {
        LacedSound x = new LacedSound();
        Pages.put(x, Pages.counting(FIRST | LAST, 4, 0, 30, 2, 1));
        x.raw(0, 1);
        CHECK.due("next()", x.next(), 3);
        CHECK.due("next() in place of it", x.next(), 3);
        CHECK.due("octet(0)", x.octet(0), 3);
        CHECK.due("octet(1)", x.octet(1), -1);
        CHECK.due("END leaves it", x.next(), 4);
        CHECK.due("SKIPPED leaves it", x.next(), 1);
        CHECK.due("octet(0)", x.octet(0), 3);
        CHECK.due("a byte that tells a BOOK", x.take(), 0);
        CHECK.due("octet(0) when it was taken", x.octet(0), -1);
        CHECK.due("take() when it was taken", x.take(), -1);
        CHECK.due("amount() of the latest event", x.amount(), 1);
        CHECK.due("time() of the latest event", x.time(), -1);
    }

    /** Events of a page come also when the wire changes behind it; pieces are counted at once. */
    private static void laterCallsKeepEvents() {
        LacedSound x = new LacedSound();
        Pages.put(x, Pages.counting(FIRST | LAST, 4, 0, 30, 2, 1, 15));
        int end = x.length();
        CHECK.due("next()", x.next(), 3);
        pieces(x, 1);
        x.raw(1, 1);
        x.alter(end, 7);
        CHECK.due("take()", x.take(), 0);
        event(x, 3, 1, 4, 30);
        CHECK.due("amount() after a take", x.amount(), 1);
        event(x, 4, 2, 4, -1);
        skipped(x, 1);
        noMore(x);
    }
}
