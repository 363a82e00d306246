/** Promises 16 and 17: FORMAT and BOOK packets, and what is refused before it is looked into. */
public final class BookTest {
    private static final Check CHECK = new Check("BookTest");

    public static void main(String[] args) {
        kinds();
        formats();
        codewords();
        sparse();
        ordered();
        refusedLengths();
        vectors();
        outBooks();
        fourBooks();
        CHECK.end();
    }

    private static LacedSound with(Bits... packets) {
        LacedSound x = new LacedSound();
        for (Bits packet : packets) {
            Talk.tell(x, packet);
        }
        return x;
    }

    private static void accepted(String what, Bits book, int... entries) {
        LacedSound x = new LacedSound();
        CHECK.due(what, Talk.tell(x, book), 3);
        for (int e = 0; e < entries.length; e++) {
            CHECK.due(what + ": entry(0, " + e + ")", x.entry(0, e), entries[e]);
        }
        CHECK.due(what + ": the entry behind the last", x.entry(0, entries.length), -1);
        CHECK.due(what + ": the entry ahead of the first", x.entry(0, -1), -1);
        CHECK.due(what + ": no book 1", x.entry(1, 0), -1);
        CHECK.due(what + ": no book -1", x.entry(-1, 0), -1);
    }

    private static void refused(String what, Bits book) {
        LacedSound x = new LacedSound();
        CHECK.due(what, Talk.tell(x, book), 0);
        CHECK.due(what + ": no book 0", x.entry(0, 0), -1);
        CHECK.due(what + ": a book behind it", Talk.tell(x, Packets.lengths(1, 1, 1).put(0, 2)), 3);
        CHECK.due(what + ": is book 0", x.entry(0, 1), 3);
    }

    private static void kinds() {
        CHECK.due("a packet without bytes", Talk.tell(new LacedSound(), new Bits()), 0);
        int[] odd = {7, 9, 11, 129, 131, 133, 255};
        for (int first : odd) {
            CHECK.due("a packet that begins with " + first, Talk.tell(new LacedSound(), new Bits().put(first, 8).put(0, 32)), 0);
        }
        LacedSound x = new LacedSound();
        CHECK.due("take() with none", x.take(), -1);
        Talk.bring(x, 0, 0, false, Packets.format(1, 0, 0).bytes());
        CHECK.due("take()", x.take(), 1);
        CHECK.due("take() again", x.take(), -1);
    }

    private static void formats() {
        for (int a = 0; a < 4; a++) {
            for (int b = 0; b < 4; b++) {
                CHECK.due("FORMAT with " + a + " and " + b, Talk.tell(new LacedSound(), Packets.format(2, a, b)), a > b ? 0 : 1);
            }
        }
        CHECK.due("FORMAT of one byte", Talk.tell(new LacedSound(), new Bits().put(1, 8)), 0);
        CHECK.due("FORMAT with bits behind it", Talk.tell(new LacedSound(), Packets.format(1, 1, 1).put(-1, 32)), 1);
        LacedSound x = with(Packets.evenBook(1, 1), Packets.format(1, 0, 0), Packets.format(2, 0, 0));
        CHECK.due("books stay with a FORMAT", x.entry(0, 1), 3);
    }

    private static void codewords() {
        accepted("lengths 2 1 3 3", Packets.lengths(1, 2, 1, 3, 3).put(0, 2), 4, 3, 10, 11);
        accepted("lengths 2 4 4 4 4 2 3 3", Packets.lengths(1, 2, 4, 4, 4, 4, 2, 3, 3).put(0, 2), 4, 20, 21, 22, 23, 6, 14, 15);
        accepted("lengths 1 to 7", Packets.lengths(1, 1, 2, 3, 4, 5, 6, 7, 7).put(0, 2), 2, 6, 14, 30, 62, 126, 254, 255);
        accepted("lengths 7 to 1", Packets.lengths(1, 7, 7, 6, 5, 4, 3, 2, 1).put(0, 2), 128, 129, 65, 33, 17, 9, 5, 3);
        accepted("lengths 3 1 3 2", Packets.lengths(1, 3, 1, 3, 2).put(0, 2), 8, 3, 9, 5);
        accepted("one entry of length 1", Packets.lengths(1, 1).put(0, 2), 2);
        accepted("two entries", Packets.lengths(4, 1, 1).put(0, 2), 2, 3);
    }

    private static void sparse() {
        Bits four = Packets.book(1, 4, 0).put(1, 1).put(0, 1).put(1, 1).put(0, 3).put(0, 1).put(1, 1).put(0, 3);
        accepted("SPARSE with two used", four.put(0, 2), 0, 2, 0, 3);
        Bits one = Packets.book(1, 3, 0).put(1, 1).put(0, 2).put(1, 1).put(0, 3);
        accepted("SPARSE with one used", one.put(0, 2), 0, 0, 2);
        Bits longer = Packets.book(1, 3, 0).put(1, 1).put(0, 2).put(1, 1).put(1, 3);
        refused("one used entry of length 2", longer.put(0, 2));
        refused("no used entry", Packets.book(1, 3, 0).put(1, 1).put(0, 3).put(0, 2));
    }

    private static void ordered() {
        // One of length 1, none of length 2, two of length 3, four of length 4.
        Bits seven = Packets.book(1, 7, 1).put(0, 3).put(1, 3).put(0, 3).put(2, 3).put(4, 3);
        accepted("ORDERED 1 0 2 4", seven.put(0, 2), 2, 12, 13, 28, 29, 30, 31);
        // Eight entries are counted in four bits, and there is no count when none is left.
        accepted("ORDERED eight", Packets.book(1, 8, 1).put(2, 3).put(8, 4).put(0, 2), 8, 9, 10, 11, 12, 13, 14, 15);
        accepted("ORDERED one", Packets.book(1, 1, 1).put(0, 3).put(1, 1).put(0, 2), 2);
        // Three of four are left in two bits, one in one bit.
        accepted("ORDERED 1 1 2", Packets.book(1, 4, 1).put(0, 3).put(1, 3).put(1, 2).put(2, 2).put(0, 2), 2, 6, 14, 15);
        refused("a count above the entries", Packets.book(1, 4, 1).put(1, 3).put(5, 3).put(0, 2));
        refused("a count above those left", Packets.book(1, 4, 1).put(0, 3).put(2, 3).put(3, 2).put(0, 16));
        refused("a length above 8", Packets.book(1, 2, 1).put(7, 3).put(0, 2).put(2, 2).put(0, 16));
        refused("ORDERED without any", Packets.book(1, 2, 1).put(0, 3).put(0, 64));
    }

    private static void refusedLengths() {
        refused("too few codewords", Packets.lengths(1, 1, 2).put(0, 2));
        refused("too many codewords", Packets.lengths(1, 1, 1, 8).put(0, 2));
        refused("one codeword short of 1 by a 256th", Packets.lengths(1, 1, 2, 3, 4, 5, 6, 7, 8).put(0, 2));
        refused("two codewords of length 2", Packets.lengths(1, 2, 2).put(0, 2));
        refused("one entry of length 8", Packets.lengths(1, 8).put(0, 2));
    }

    private static void vectors() {
        refused("KIND 3", Packets.lengths(1, 1, 1).put(3, 2).put(0, 64));
        accepted("KIND 1", Packets.vectors(Packets.lengths(1, 1, 1), 1, 0, 1, 0, 1, 0, 1), 2, 3);
        accepted("KIND 2", Packets.vectors(Packets.lengths(2, 1, 1), 2, 0, 1, 0, 4, 0, 1, 2, 3), 2, 3);
    }

    /** Just as many bits as are needed: whole bytes, and one byte less. */
    private static void outBooks() {
        // The head has 8 + 5 + 1 + 1 + 4 * 3 + 2 + 10 bits, and R is 4.
        outAtEnd("KIND 1 of dimension 1", Packets.vectors(Packets.even(1, 2), 1, 0, 0, 0, 2), 39, 8);
        // Dimension 2: R = 2 for 4 entries up to 8.
        outAtEnd("KIND 1 of dimension 2", Packets.vectors(Packets.even(2, 2), 1, 0, 0, 0, 3), 39, 6);
        outAtEnd("KIND 1 of dimension 2 and 8 entries", Packets.vectors(Packets.even(2, 3), 1, 0, 0, 0, 3), 51, 6);
        // Dimension 3: 2^3 is 8; dimension 4: 2^4 is more than 8.
        outAtEnd("KIND 1 of dimension 3", Packets.vectors(Packets.even(3, 3), 1, 0, 0, 0, 4), 51, 8);
        outAtEnd("KIND 1 of dimension 4", Packets.vectors(Packets.even(4, 3), 1, 0, 0, 0, 4), 51, 4);
        outAtEnd("KIND 2 of dimension 3", Packets.vectors(Packets.even(3, 2), 2, 0, 0, 0, 4), 39, 48);
        outAtEnd("no vectors", Packets.lengths(1, 1, 1), 21, 2);
        refused("a BOOK of one byte", new Bits().put(3, 8));
        refused("a BOOK of two bytes", Packets.book(1, 1, 0).put(0, 1));
    }

    /** Bits from the head on: accepted with all that are needed, refused with one byte less. */
    private static void outAtEnd(String what, Bits head, int headBits, int needed) {
        CHECK.due(what + ": bits of the head", head.count(), headBits);
        int all = headBits + needed;
        Bits packet = head.put(0, 30).put(0, 30);
        int bytes = (all + 7) / 8;
        LacedSound x = new LacedSound();
        Talk.bring(x, 0, 0, false, packet.bytes().subList(0, bytes));
        CHECK.due(what + " with " + bytes + " bytes", x.take(), 3);
        Talk.bring(x, 0, 0, false, packet.bytes().subList(0, bytes - 1));
        CHECK.due(what + " with " + (bytes - 1) + " bytes", x.take(), 0);
    }

    private static void fourBooks() {
        LacedSound x = new LacedSound();
        for (int k = 0; k < 4; k++) {
            CHECK.due("book " + k, Talk.tell(x, Packets.evenBook(1, k)), k == 0 ? 0 : 3);
        }
        CHECK.due("book 3", Talk.tell(x, Packets.lengths(1, 2, 2, 1).put(0, 2)), 3);
        CHECK.due("a fifth", Talk.tell(x, Packets.evenBook(1, 1)), 0);
        CHECK.due("entry(3, 2)", x.entry(3, 2), 3);
        CHECK.due("entry(4, 0)", x.entry(4, 0), -1);
        CHECK.due("entry(2, 7)", x.entry(2, 7), 15);
        CHECK.due("entry of the greatest numbers", x.entry(Integer.MAX_VALUE, Integer.MAX_VALUE), -1);
        CHECK.due("entry of the least numbers", x.entry(Integer.MIN_VALUE, Integer.MIN_VALUE), -1);
    }
}
