import java.util.List;

/** The boundaries of promises 10 to 15 and of the term READER, sentence by sentence. */
public final class ReaderEdgesTest {
    private static final Check CHECK = new Check("ReaderEdgesTest");
    private static final int CONTINUED = Pages.CONTINUED;
    private static final int FIRST = Pages.FIRST;
    private static final int LAST = Pages.LAST;

    public static void main(String[] args) {
        threeStreams();
        strangerAlone();
        knownFromNowOn();
        firstDrops();
        firstCountsAnew();
        gapOfEveryWidth();
        noGapWhereExpected();
        numberOfThePageBefore();
        gapDrops();
        notContinuedDrops();
        continuedPassesOver();
        continuedWithoutSegment();
        fifteenGoesOn();
        moreThan64Bytes();
        timeOfThePage();
        lastDrops();
        lastForgets();
        piecesOfOnePage();
        eventsInOrder();
        noneNow();
        eventsNotGivenYet();
        pagesWithoutEvents();
        zeroIsNoEvent();
        noEventYet();
        inHand();
        amountOfEnd();
        amountOfStranger();
        serialAndTime();
        octets();
        CHECK.end();
    }

    private static void put(LacedSound x, int flags, int serial, int number, int time, Integer... lacings) {
        Pages.put(x, Pages.counting(flags, serial, number, time, lacings));
    }

    private static void event(String what, LacedSound x, int kind, int amount, int serial, int time) {
        CHECK.due(what + ": next()", x.next(), kind);
        CHECK.due(what + ": amount()", x.amount(), amount);
        CHECK.due(what + ": serial()", x.serial(), serial);
        CHECK.due(what + ": time()", x.time(), time);
    }

    private static void none(String what, LacedSound x) {
        CHECK.due(what + ": next() with nothing to come", x.next(), 0);
    }

    private static void pieces(String what, LacedSound x, int due) {
        CHECK.due(what + ": pieces()", x.pieces(), due);
    }

    /** A stream 4 whose page before was NUMBER 0, with an unfinished packet or without. */
    private static LacedSound known(boolean unfinished) {
        LacedSound x = new LacedSound();
        if (unfinished) {
            put(x, FIRST, 4, 0, 1, 15);
        } else {
            put(x, FIRST, 4, 0, 1);
        }
        none("the first page", x);
        return x;
    }

    private static void threeStreams() {
        CHECK.sentence("It knows at most three streams at a time, by their serials.");
        LacedSound x = new LacedSound();
        for (int serial : new int[] {0, 255, 7}) {
            put(x, FIRST, serial, 0, 1);
            none("stream " + serial, x);
        }
        put(x, FIRST, 8, 0, 1);
        event("a fourth", x, 5, 14, 8, -1);
        for (int serial : new int[] {7, 255, 0}) {
            put(x, 0, serial, 1, 6, 1);
            event("a known one", x, 3, 1, serial, 6);
        }
        put(x, LAST, 255, 2, 1);
        event("the end of one", x, 4, 1, 255, -1);
        put(x, 0, 8, 9, 6, 1);
        event("a fourth in its place", x, 3, 1, 8, 6);
        put(x, FIRST, 255, 0, 1);
        event("which is a stranger now", x, 5, 14, 255, -1);
        put(x, LAST, 0, 2, 1);
        put(x, LAST, 7, 2, 1);
        put(x, LAST, 8, 10, 1);
        for (int serial : new int[] {0, 7, 8}) {
            event("the end of all", x, 4, 1, serial, -1);
        }
        for (int serial = 10; serial < 13; serial++) {
            put(x, 0, serial, 0, 6, 1);
            event("three others", x, 3, 1, serial, 6);
        }
        put(x, 0, 13, 0, 6, 1);
        event("and no fourth", x, 5, 16, 13, -1);
    }

    private static void strangerAlone() {
        CHECK.sentence("If s is not known and three are known: one event STRANGER, and nothing else is done with the page.");
        for (int flags = 0; flags <= 7; flags++) {
            LacedSound x = new LacedSound();
            put(x, FIRST, 1, 0, 1, 15);
            put(x, FIRST, 2, 0, 1, 15);
            put(x, FIRST, 3, 0, 1);
            put(x, flags, 4, 0, 9, 1, 0, 15);
            event("FLAGS " + flags, x, 5, 33, 4, -1);
            none("FLAGS " + flags, x);
            pieces("FLAGS " + flags, x, 0);
            put(x, CONTINUED, 1, 1, 5, 2);
            event("a known one goes on", x, 3, 17, 1, 5);
            put(x, LAST, 3, 1, 1);
            event("one ends", x, 4, 0, 3, -1);
            // It was not known: neither its number nor its segments count.
            put(x, CONTINUED, 4, 77, 5, 2, 3);
            event("the stranger comes in", x, 3, 3, 4, 5);
            pieces("the stranger comes in", x, 1);
            put(x, LAST, 4, 78, 5);
            event("the stranger ends", x, 4, 1, 4, -1);
        }
    }

    private static void knownFromNowOn() {
        CHECK.sentence("If s is not known otherwise: it is known from now on, with no unfinished packet.");
        for (int flags : new int[] {0, FIRST}) {
            LacedSound x = new LacedSound();
            put(x, flags, 4, 200, 3, 1);
            event("a new one of any number", x, 3, 1, 4, 3);
            put(x, 0, 4, 202, 3);
            event("it is known", x, 2, 1, 4, -1);
        }
        LacedSound x = new LacedSound();
        put(x, CONTINUED, 4, 0, 3, 15, 2, 6);
        event("a new one that is CONTINUED", x, 3, 6, 4, 3);
        pieces("a new one that is CONTINUED", x, 1);
        put(x, LAST, 4, 1, 3, 15);
        event("END with an unfinished packet", x, 4, 1, 4, -1);
        pieces("END with an unfinished packet", x, 2);
        put(x, CONTINUED, 4, 2, 3, 5);
        none("known again, with none to go on with", x);
        pieces("known again, with none to go on with", x, 3);
    }

    private static void firstDrops() {
        CHECK.sentence("If s was known before the page, and the page is FIRST: an unfinished packet of s is dropped (a piece)");
        for (int number : new int[] {0, 1, 2, 255}) {
            LacedSound x = known(true);
            put(x, FIRST, 4, number, 3, 2);
            event("FIRST with number " + number, x, 3, 2, 4, 3);
            pieces("FIRST with number " + number, x, 1);
            LacedSound y = known(false);
            put(y, FIRST, 4, number, 3, 2);
            event("FIRST with no unfinished packet", y, 3, 2, 4, 3);
            pieces("FIRST with no unfinished packet", y, 0);
            // The next number is the one behind this page's.
            put(y, 0, 4, number + 1 & 255, 3);
            none("the page behind it", y);
        }
        LacedSound x = known(true);
        put(x, FIRST | CONTINUED, 4, 1, 3, 2, 6);
        event("FIRST and CONTINUED", x, 3, 6, 4, 3);
        pieces("FIRST and CONTINUED", x, 2);
    }

    private static void firstCountsAnew() {
        CHECK.sentence("and the stream counts its packets from 0 again.");
        LacedSound x = new LacedSound();
        put(x, 0, 4, 0, 3, 1, 1, 1);
        put(x, FIRST, 4, 1, 3, 1, 1);
        put(x, LAST, 4, 2, 3, 1);
        for (int k = 0; k < 6; k++) {
            CHECK.due("packet " + k, x.next(), 3);
        }
        event("END", x, 4, 3, 4, -1);
    }

    private static void gapOfEveryWidth() {
        CHECK.sentence("GAP: NUMBER less the number that was expected, mod 256.");
        for (int before : new int[] {0, 1, 100, 254, 255}) {
            for (int width : new int[] {1, 2, 127, 128, 254, 255}) {
                LacedSound x = new LacedSound();
                put(x, FIRST, 4, before, 3);
                put(x, 0, 4, before + 1 + width & 255, 3);
                event("a gap of " + width + " behind " + before, x, 2, width, 4, -1);
                none("behind the gap", x);
                put(x, 0, 4, before + 2 + width & 255, 3);
                none("the number behind the gap is expected", x);
            }
        }
    }

    private static void noGapWhereExpected() {
        CHECK.sentence("If s was known before the page, the page is not FIRST, and NUMBER is not that of the page of s read before, plus 1 (0 after 255): an event GAP");
        LacedSound x = new LacedSound();
        for (int number : new int[] {253, 254, 255, 0, 1}) {
            put(x, 0, 4, number, 3);
        }
        none("253 to 1", x);
        put(x, 0, 4, 1, 3);
        event("1 again", x, 2, 255, 4, -1);
        put(x, 0, 4, 255, 3);
        event("255 behind 1", x, 2, 253, 4, -1);
        put(x, 0, 4, 1, 3);
        event("1 behind 255", x, 2, 1, 4, -1);
    }

    private static void numberOfThePageBefore() {
        CHECK.sentence("NUMBER is not that of the page of s read before, plus 1");
        LacedSound x = new LacedSound();
        put(x, FIRST, 4, 10, 3);
        put(x, FIRST, 5, 20, 3);
        put(x, 0, 4, 11, 3);
        put(x, 0, 5, 21, 3);
        none("two streams count apart", x);
        put(x, 0, 4, 12, 3);
        x.alter(x.length() - 1, 1);
        put(x, 0, 4, 13, 3);
        event("a page that is BAD", x, 1, 14, -1, -1);
        event("is not read", x, 2, 1, 4, -1);
    }

    private static void gapDrops() {
        CHECK.sentence("an event GAP, and an unfinished packet of s is dropped (a piece).");
        LacedSound x = known(true);
        put(x, CONTINUED, 4, 2, 3, 2, 6);
        event("a GAP within a packet", x, 2, 1, 4, -1);
        pieces("dropped, and passed over", x, 2);
        event("the packet behind", x, 3, 6, 4, 3);
        LacedSound y = known(false);
        put(y, CONTINUED, 4, 2, 3);
        event("a GAP between packets", y, 2, 1, 4, -1);
        pieces("a GAP between packets", y, 0);
        LacedSound z = known(true);
        put(z, CONTINUED, 4, 1, 3, 2, 6);
        event("no GAP", z, 3, 17, 4, 65535);
        pieces("no GAP", z, 0);
        LacedSound w = known(true);
        put(w, FIRST, 5, 0, 3, 15);
        put(w, 0, 4, 2, 3);
        put(w, CONTINUED, 5, 1, 3, 1);
        event("the GAP of one stream", w, 2, 1, 4, -1);
        event("leaves the packet of another", w, 3, 16, 5, 3);
        pieces("the GAP of one stream", w, 1);
    }

    private static void notContinuedDrops() {
        CHECK.sentence("If the page is not CONTINUED, an unfinished packet of s is dropped (a piece).");
        LacedSound x = known(true);
        put(x, 0, 4, 1, 3, 2);
        event("not CONTINUED", x, 3, 2, 4, 3);
        pieces("not CONTINUED", x, 1);
        LacedSound y = known(true);
        put(y, 0, 4, 1, 3);
        none("not CONTINUED and without a segment", y);
        pieces("not CONTINUED and without a segment", y, 1);
        put(y, CONTINUED, 4, 2, 3, 2);
        none("it was dropped", y);
        pieces("it was dropped", y, 2);
        LacedSound z = known(false);
        put(z, 0, 4, 1, 3, 2);
        event("no unfinished packet", z, 3, 2, 4, 3);
        pieces("no unfinished packet", z, 0);
    }

    private static void continuedPassesOver() {
        CHECK.sentence("its segments up to the first one below 15, that one included, or all of them if there is none such, are passed over: one piece, however many segments.");
        for (int end = 0; end < 6; end++) {
            Integer[] lacings = {15, 15, 15, 15, 15, 15};
            lacings[end] = end * 2;
            LacedSound x = known(false);
            put(x, CONTINUED, 4, 1, 3, lacings);
            none("the first below 15 is " + end, x);
            pieces("the first below 15 is " + end, x, 1);
            put(x, CONTINUED, 4, 2, 3, 1);
            CHECK.due("what follows goes on", x.next(), end < 5 ? 3 : 0);
            CHECK.due("amount()", x.amount(), end < 5 ? 15 * (5 - end) + 1 : -1);
            pieces("what follows", x, end < 5 ? 1 : 2);
        }
        for (int count = 1; count <= 6; count++) {
            Integer[] lacings = new Integer[count];
            java.util.Arrays.fill(lacings, 15);
            LacedSound x = known(false);
            put(x, CONTINUED, 4, 1, 3, lacings);
            put(x, CONTINUED, 4, 2, 3, 1, 2);
            event("none below 15 of " + count, x, 3, 2, 4, 3);
            pieces("none below 15 of " + count, x, 2);
        }
        LacedSound x = known(false);
        put(x, CONTINUED, 4, 1, 3, 14, 1);
        event("one of 14 is below 15", x, 3, 1, 4, 3);
        CHECK.due("octet(0)", x.octet(0), 15);
    }

    private static void continuedWithoutSegment() {
        CHECK.sentence("If it is CONTINUED, there is no unfinished packet of s, and the page has a segment, then");
        LacedSound x = known(false);
        put(x, CONTINUED, 4, 1, 3);
        none("no segment and no packet", x);
        pieces("no segment and no packet", x, 0);
        LacedSound y = known(true);
        put(y, CONTINUED, 4, 1, 3);
        put(y, CONTINUED, 4, 2, 3, 0);
        event("no segment within a packet", y, 3, 15, 4, 3);
        pieces("no segment within a packet", y, 0);
    }

    private static void fifteenGoesOn() {
        CHECK.sentence("The segments not passed over are taken in order: each goes on with the unfinished packet, or begins one; one below 15 finishes it: an event PACKET.");
        for (int lacing = 0; lacing <= 15; lacing++) {
            LacedSound x = new LacedSound();
            put(x, FIRST, 4, 0, 3, lacing, 1);
            event("a segment of " + lacing, x, 3, lacing == 15 ? 16 : lacing, 4, lacing == 15 ? 3 : 65535);
            CHECK.due("a segment of " + lacing + ": next()", x.next(), lacing == 15 ? 0 : 3);
        }
        LacedSound x = known(true);
        put(x, CONTINUED, 4, 1, 3, 15, 0, 0);
        event("goes on over pages", x, 3, 30, 4, 65535);
        event("begins one", x, 3, 0, 4, 3);
    }

    private static void moreThan64Bytes() {
        CHECK.sentence("(A packet that is read has as many bytes as its segments have, be they more than 64.)");
        for (int last : new int[] {3, 4, 5, 14}) {
            LacedSound x = new LacedSound();
            put(x, FIRST, 4, 0, 3, 15, 15, 15, 15, last);
            event("60 and " + last, x, 3, 60 + last, 4, 3);
            CHECK.due("the last byte", x.octet(59 + last), 60 + last);
            CHECK.due("behind the last byte", x.octet(60 + last), -1);
        }
        // As much as a wire of 1000 bytes holds: nine pages of 110 bytes less one.
        LacedSound x = new LacedSound();
        for (int k = 0; k < 8; k++) {
            put(x, k == 0 ? FIRST : CONTINUED, 4, k, 3, 15, 15, 15, 15, 15, 15);
        }
        put(x, CONTINUED, 4, 8, 3, 15, 15, 15, 15, 15, 14);
        event("nine pages", x, 3, 809, 4, 3);
        for (int k : new int[] {0, 89, 90, 719, 720, 808}) {
            CHECK.due("octet(" + k + ")", x.octet(k), k % 90 + 1);
        }
        CHECK.due("octet(809)", x.octet(809), -1);
        // Short pages make more segments of it: 32 pages of 30 bytes.
        LacedSound y = new LacedSound();
        for (int k = 0; k < 32; k++) {
            put(y, k == 0 ? FIRST : CONTINUED, 4, k, 3, 15);
        }
        none("32 pages of one segment", y);
        put(y, CONTINUED, 4, 32, 3, 0);
        event("32 pages of one segment", y, 3, 480, 4, 3);
        CHECK.due("octet(479)", y.octet(479), 15);
    }

    private static void timeOfThePage() {
        CHECK.sentence("The packet's time is TIME, and it is CLOSING when the page is LAST, if the segment is the last one below 15 of the page; else its time is 65535");
        LacedSound x = new LacedSound();
        put(x, FIRST, 4, 0, 500, 1, 2, 15);
        event("not the last below 15", x, 3, 1, 4, 65535);
        event("the last below 15, not the last", x, 3, 2, 4, 500);
        put(x, CONTINUED, 4, 1, 600, 15, 15);
        none("none below 15", x);
        put(x, CONTINUED, 4, 2, 700, 14);
        event("the page in which it ends", x, 3, 59, 4, 700);
        put(x, 0, 4, 3, 65535, 1);
        event("a page without a time", x, 3, 1, 4, 65535);
    }

    private static void lastDrops() {
        CHECK.sentence("If the page is LAST: an unfinished packet of s is dropped (a piece), an event END");
        LacedSound x = known(true);
        put(x, LAST | CONTINUED, 4, 1, 3);
        event("within a packet, without a segment", x, 4, 0, 4, -1);
        pieces("within a packet, without a segment", x, 1);
        LacedSound y = known(true);
        put(y, LAST | CONTINUED, 4, 1, 3, 15);
        event("within a packet, with a segment of it", y, 4, 0, 4, -1);
        pieces("within a packet, with a segment of it", y, 1);
        LacedSound z = known(true);
        put(z, LAST | CONTINUED, 4, 1, 3, 0);
        event("with the end of the packet", z, 3, 15, 4, 3);
        event("with the end of the packet", z, 4, 1, 4, -1);
        pieces("with the end of the packet", z, 0);
        LacedSound w = known(true);
        put(w, LAST, 4, 1, 3);
        event("not CONTINUED: dropped once", w, 4, 0, 4, -1);
        pieces("not CONTINUED: dropped once", w, 1);
    }

    private static void lastForgets() {
        CHECK.sentence("and s is not known any more.");
        LacedSound x = known(false);
        put(x, LAST, 4, 1, 3, 1, 1);
        put(x, 0, 4, 9, 3, 1);
        put(x, LAST, 4, 10, 3);
        event("one", x, 3, 1, 4, 65535);
        event("two", x, 3, 1, 4, 3);
        event("the end of two", x, 4, 2, 4, -1);
        event("no GAP", x, 3, 1, 4, 3);
        event("the end of one", x, 4, 1, 4, -1);
        none("the end", x);
        LacedSound y = new LacedSound();
        put(y, FIRST | LAST, 4, 0, 3);
        event("known for one page", y, 4, 0, 4, -1);
        for (int serial = 5; serial < 8; serial++) {
            put(y, FIRST, serial, 0, 3);
        }
        none("three others have room", y);
        put(y, FIRST, 4, 0, 3);
        event("and it is a stranger", y, 5, 14, 4, -1);
    }

    private static void piecesOfOnePage() {
        CHECK.sentence("How many pieces the reader has counted. (All pieces of a page are counted when it is read.)");
        LacedSound x = known(true);
        put(x, CONTINUED | LAST, 4, 5, 3, 2, 1, 15);
        pieces("before it is read", x, 0);
        event("GAP, the first of three events", x, 2, 4, 4, -1);
        pieces("dropped, passed over, dropped at the end", x, 3);
        event("the packet", x, 3, 1, 4, 3);
        event("END", x, 4, 1, 4, -1);
        pieces("no more of them", x, 3);
        LacedSound y = known(true);
        put(y, FIRST | CONTINUED | LAST, 4, 1, 3, 15, 15);
        event("FIRST, all passed over", y, 4, 0, 4, -1);
        pieces("FIRST, all passed over", y, 2);
        CHECK.due("pieces() of a new object", new LacedSound().pieces(), 0);
    }

    private static void eventsInOrder() {
        CHECK.sentence("A page that is READ, with serial s, gives EVENTS in the following order, and the read place goes behind it.");
        LacedSound x = known(false);
        put(x, LAST, 4, 7, 3, 0, 1, 2, 3, 4, 5);
        CHECK.due("the read place is ahead of it", x.alter(14, 1), true);
        x.alter(14, 1);
        event("GAP", x, 2, 6, 4, -1);
        CHECK.due("the read place is behind it", x.alter(x.length() - 1, 1), false);
        for (int k = 0; k < 6; k++) {
            event("PACKET " + k, x, 3, k, 4, k == 5 ? 3 : 65535);
        }
        event("END", x, 4, 6, 4, -1);
        none("eight events", x);
    }

    private static void noneNow() {
        CHECK.sentence("0 when there is none now.");
        LacedSound x = new LacedSound();
        for (int k = 0; k < 3; k++) {
            none("an empty wire", x);
        }
        CHECK.due("length()", x.length(), 0);
        put(x, FIRST, 4, 0, 3, 1);
        event("a page that came later", x, 3, 1, 4, 3);
        for (int k = 0; k < 3; k++) {
            none("behind it", x);
        }
    }

    private static void eventsNotGivenYet() {
        CHECK.sentence("If events of pages that were read have not been given yet, the first of them is given.");
        LacedSound x = new LacedSound();
        put(x, FIRST | LAST, 4, 0, 3, 1, 2);
        event("the first of three", x, 3, 1, 4, 65535);
        x.raw(0, 8);
        put(x, FIRST, 5, 0, 3, 9);
        x.cut(x.length() - 1, 1);
        CHECK.due("take() of the first", x.take(), 0);
        event("the second", x, 3, 2, 4, 3);
        CHECK.due("its byte", x.octet(0), 2);
        event("the third", x, 4, 2, 4, -1);
        event("what came behind", x, 1, 8, -1, -1);
        none("a page that is OPEN", x);
    }

    private static void pagesWithoutEvents() {
        CHECK.sentence("Otherwise, until there is an event or the read place is OPEN (the answer is 0 then)");
        LacedSound x = new LacedSound();
        for (int k = 0; k < 71; k++) {
            CHECK.due("flush " + k, x.flush(0, k == 70), 0);
        }
        event("70 pages without an event, and an END", x, 4, 0, 0, -1);
        CHECK.due("all were read", x.alter(993, 1), false);
        LacedSound y = new LacedSound();
        for (int k = 0; k < 71; k++) {
            y.flush(0, false);
        }
        none("71 pages without an event", y);
        CHECK.due("all were read", y.alter(993, 1), false);
        CHECK.due("amount()", y.amount(), -1);
        CHECK.due("serial()", y.serial(), -1);
    }

    private static void zeroIsNoEvent() {
        CHECK.sentence("The event given is the LATEST one (an answer 0 is no event).");
        LacedSound x = new LacedSound();
        none("a new object", x);
        CHECK.due("amount() with none", x.amount(), -1);
        CHECK.due("serial() with none", x.serial(), -1);
        CHECK.due("time() with none", x.time(), -1);
        put(x, FIRST, 4, 0, 3, 2);
        event("PACKET", x, 3, 2, 4, 3);
        none("behind it", x);
        CHECK.due("amount() stays", x.amount(), 2);
        CHECK.due("serial() stays", x.serial(), 4);
        CHECK.due("time() stays", x.time(), 3);
        CHECK.due("octet(1) stays", x.octet(1), 2);
        CHECK.due("take()", x.take(), 0);
        CHECK.due("amount() stays with a take", x.amount(), 2);
        CHECK.due("time() stays with a take", x.time(), 3);
    }

    private static void noEventYet() {
        CHECK.sentence("NONE when there was no event (a 0 of next() leaves the latest one).");
        LacedSound x = new LacedSound();
        CHECK.due("amount() of a new object", x.amount(), -1);
        none("an empty wire", x);
        CHECK.due("amount() behind a 0", x.amount(), -1);
        put(x, FIRST, 4, 0, 3);
        none("a page without an event", x);
        CHECK.due("amount() behind a page without an event", x.amount(), -1);
        x.raw(0, 2);
        event("SKIPPED", x, 1, 2, -1, -1);
        none("behind it", x);
        CHECK.due("amount() stays", x.amount(), 2);
        put(x, 0, 4, 1, 3);
        none("a page without an event", x);
        CHECK.due("amount() stays", x.amount(), 2);
        // An amount of 0 is none of these.
        put(x, 0, 4, 2, 3, 0);
        event("an empty packet", x, 3, 0, 4, 3);
    }

    private static void inHand() {
        CHECK.sentence("With a PACKET its packet is IN HAND, in place of one that was.");
        LacedSound x = new LacedSound();
        CHECK.due("octet(0) with none", x.octet(0), -1);
        put(x, FIRST, 4, 0, 3, 3, 1, 0);
        event("the first", x, 3, 3, 4, 65535);
        CHECK.due("octet(2)", x.octet(2), 3);
        event("the second", x, 3, 1, 4, 65535);
        CHECK.due("octet(0)", x.octet(0), 4);
        CHECK.due("octet(1)", x.octet(1), -1);
        event("the third, which is empty", x, 3, 0, 4, 3);
        CHECK.due("octet(0)", x.octet(0), -1);
        CHECK.due("take() of an empty one", x.take(), 0);
        CHECK.due("take() with none", x.take(), -1);
        put(x, 0, 4, 1, 3, 1);
        event("one more", x, 3, 1, 4, 3);
        // Events that are no PACKET leave it in hand.
        put(x, 0, 4, 9, 3);
        put(x, LAST, 4, 10, 3);
        x.raw(0, 1);
        for (int kind : new int[] {2, 4, 1, 0}) {
            CHECK.due("next()", x.next(), kind);
            CHECK.due("octet(0) behind event " + kind, x.octet(0), 1);
        }
        for (int serial = 5; serial < 9; serial++) {
            put(x, FIRST, serial, 0, 3);
        }
        CHECK.due("STRANGER", x.next(), 5);
        CHECK.due("octet(0) behind a STRANGER", x.octet(0), 1);
        CHECK.due("take()", x.take(), 0);
    }

    private static void amountOfEnd() {
        CHECK.sentence("END: how many events PACKET this stream gave since it is known or since its latest page that was FIRST (with those of that page).");
        for (int flags : new int[] {0, FIRST}) {
            LacedSound x = new LacedSound();
            put(x, 0, 4, 0, 3, 1, 1);
            put(x, FIRST, 5, 0, 3, 1);
            put(x, flags, 4, 1, 3, 1);
            put(x, LAST, 4, 2, 3, 1, 1, 15);
            for (int k = 0; k < 6; k++) {
                CHECK.due("packet " + k, x.next(), 3);
            }
            event("END with FLAGS " + flags, x, 4, flags == FIRST ? 3 : 5, 4, -1);
        }
        LacedSound x = new LacedSound();
        put(x, 0, 4, 0, 3, 1, 1);
        put(x, FIRST | LAST, 4, 1, 3, 1);
        for (int k = 0; k < 3; k++) {
            CHECK.due("packet " + k, x.next(), 3);
        }
        event("a page that is FIRST and LAST", x, 4, 1, 4, -1);
        LacedSound y = new LacedSound();
        put(y, LAST, 4, 0, 3);
        event("a stream without a packet", y, 4, 0, 4, -1);
    }

    private static void amountOfStranger() {
        CHECK.sentence("STRANGER: the bytes of the page.");
        List<Integer[]> pages = List.of(new Integer[] {}, new Integer[] {0}, new Integer[] {3, 4}, new Integer[] {15, 15, 15, 15, 15, 15});
        int[] due = {14, 15, 23, 110};
        LacedSound x = new LacedSound();
        for (int serial = 0; serial < 3; serial++) {
            x.flush(serial, false);
        }
        for (int k = 0; k < due.length; k++) {
            put(x, FIRST, 100 + k, 0, 3, pages.get(k));
            event("a page of " + due[k], x, 5, due[k], 100 + k, -1);
        }
    }

    private static void serialAndTime() {
        CHECK.sentence("The serial of the latest event's page; NONE when it is SKIPPED or there was none.");
        LacedSound x = new LacedSound();
        put(x, FIRST, 0, 0, 0, 1);
        event("serial and time 0", x, 3, 1, 0, 0);
        x.raw(0, 1);
        event("SKIPPED", x, 1, 1, -1, -1);
        put(x, 0, 0, 5, 8);
        CHECK.sentence("The time of the packet of the latest event; NONE when that is no PACKET or there was none.");
        event("GAP", x, 2, 4, 0, -1);
        put(x, LAST, 0, 6, 65535, 1);
        event("a PACKET without a time", x, 3, 1, 0, 65535);
        event("END", x, 4, 2, 0, -1);
    }

    private static void octets() {
        CHECK.sentence("Byte k (from 0) of the packet in hand; NONE when there is none.");
        LacedSound x = new LacedSound();
        put(x, FIRST, 4, 0, 3, 15, 2);
        CHECK.due("octet(0) of a page that is not read", x.octet(0), -1);
        x.next();
        for (int k = 0; k < 17; k++) {
            CHECK.due("octet(" + k + ")", x.octet(k), k + 1);
        }
        for (int k : new int[] {-1, 17, 18, 999, 1000, Integer.MIN_VALUE, Integer.MAX_VALUE}) {
            CHECK.due("octet(" + k + ")", x.octet(k), -1);
        }
        x.take();
        CHECK.due("octet(0) when it was taken", x.octet(0), -1);
        Pages.put(x, Pages.of(0, 4, 1, 3, List.of(2), List.of(255, 128)));
        x.next();
        CHECK.due("a byte of 255", x.octet(0), 255);
        CHECK.due("a byte of 128", x.octet(1), 128);
    }
}
