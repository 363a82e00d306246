/** FORMAT, BOOK and SETUP packets that many tests share. */
final class Packets {
    private Packets() { }

    static Bits format(int channels, int a, int b) {
        return new Bits().put(1, 8).put(channels - 1, 1).put(a, 2).put(b, 2);
    }

    /** The head of a BOOK packet, up to ORDERED. */
    static Bits book(int dimension, int entries, int ordered) {
        return new Bits().put(3, 8).put(dimension - 1, 2).put(entries - 1, 3).put(ordered, 1);
    }

    /** A BOOK whose entries all are used and have these lengths; KIND is still to come. */
    static Bits lengths(int dimension, int... lengths) {
        Bits bits = book(dimension, lengths.length, 0).put(0, 1);
        for (int length : lengths) {
            bits.put(length - 1, 3);
        }
        return bits;
    }

    /** A BOOK without vectors with 2^digits entries, whose codewords are their own numbers. */
    static Bits evenBook(int dimension, int digits) {
        return even(dimension, digits).put(0, 2);
    }

    static Bits even(int dimension, int digits) {
        int[] lengths = new int[1 << digits];
        java.util.Arrays.fill(lengths, digits);
        return lengths(dimension, lengths);
    }

    /** Adds KIND 1 or 2, MIN, STEP, SUM and the numbers, of width bits each. */
    static Bits vectors(Bits book, int kind, int min, int step, int sum, int width, int... numbers) {
        book.put(kind, 2).put(min + 8, 4).put(step, 3).put(sum, 1).put(width - 1, 2);
        for (int number : numbers) {
            book.put(number, width);
        }
        return book;
    }

    /** A SETUP's curve without parts: FACTOR g + 1, and point 1 at 2^(r + 2). */
    static Bits bareCurve(int g, int r) {
        return new Bits().put(5, 8).put(g, 2).put(0, 2).put(r, 2);
    }

    /** Adds a SETUP's values up to the kinds' book. */
    static Bits values(Bits curve, int mode, int begin, int end, int partSize, int kinds, int kindsBook) {
        return curve.put(mode, 2).put(begin, 5).put(end, 6).put(partSize - 1, 3).put(kinds - 1, 1).put(kindsBook, 2);
    }

    /** A SETUP that needs book 0 alone, and has no values to read. */
    static Bits plainSetup() {
        return values(bareCurve(0, 0), 1, 0, 0, 1, 1, 0).put(0, 2).put(0, 1);
    }

    /** A SOUND of a short block, up to its channels. */
    static Bits shortSound() {
        return new Bits().put(0, 2);
    }

    /** A SOUND of a long block, up to its channels; bit 0 of wings is the first one. */
    static Bits longSound(int wings) {
        return new Bits().put(2, 2).put(wings, 2);
    }

    /** Adds a channel that is used, whose points 0 and 1 have these numbers; for G = 0. */
    static Bits channel(Bits sound, int first, int second) {
        return sound.put(1, 1).put(first, 5).put(second, 5);
    }

    /**
     * Brings an object on stream 0 to where there is a bit of everything: a FORMAT of two channels
     * with blocks of 8 and 16, three books (one without vectors), a JOINED setup, two blocks.
     */
    static void live(LacedSound x) {
        Bits curve = new Bits().put(5, 8).put(0, 2).put(1, 2).put(0, 1).put(1, 2).put(0, 1).put(1, 3).put(1, 2).put(2, 3).put(5, 3);
        Bits setup = values(curve, 1, 1, 7, 2, 2, 0).put(1, 2).put(3, 2).put(1, 2).put(2, 2).put(1, 2).put(1, 1);
        Bits longer = channel(longSound(1), 20, 9).word("101").word("010").put(0, 1).put(0x5A3C96, 24).put(0x35, 8);
        Bits shorter = channel(shortSound(), 7, 17).word("001").word("110");
        Talk.tell(x, format(2, 0, 1));
        Talk.tell(x, evenBook(2, 3));
        Talk.tell(x, vectors(even(2, 1), 2, -3, 2, 0, 2, 1, 3, 2, 0));
        Talk.tell(x, vectors(lengths(1, 1, 2, 2), 1, -1, 3, 0, 2, 2, 0, 3));
        Talk.tell(x, setup);
        Talk.tell(x, longer);
        Talk.tell(x, channel(shorter, 3, 4).word("000").word("111").put(0x2D71, 16).put(0, 1));
    }
}
